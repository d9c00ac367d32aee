import java.util.ArrayList;
import java.util.List;
import java.util.function.IntUnaryOperator;

/** Programs as trees that are written out as texts, and a plain walk over them with a new object for all that begins. */
final class RunModel {
    static final int DONE = 1;

    /** A node of any kind; number is what the text gives it. */
    static final class Node {
        String kind;
        int number = -1;
        long value;
        int name;
        int act;
        final List<Node> sums = new ArrayList<>();
        final List<Node> blocks = new ArrayList<>();

        Node(String kind) {
            this.kind = kind;
        }
    }

    /** The walk of a second is over. */
    static final class Over extends RuntimeException {
        private static final long serialVersionUID = 1;

        Over() {
            super(null, null, false, false);
        }
    }

    final long[] values;
    final List<Node> main;
    final List<int[]> alarms = new ArrayList<>();
    int state;
    int second;
    // Does an act: the reason why it is refused; without a house it is bound to nothing.
    IntUnaryOperator acts = k -> 1;
    private final Seq root;
    private int begun;
    private int actsBegun;
    private boolean holding;
    // Seconds in which the run was on as they began, those with a fault too.
    private long walked;

    RunModel(List<Node> main, long[] values, int second) {
        this.main = main;
        this.values = values;
        this.second = second;
        this.root = new Seq(main);
    }

    private void fault(int kind, Node where) {
        alarm(kind, where);
        state = 2;
        throw new Over();
    }

    private void alarm(int kind, Node where) {
        alarms.add(new int[] {second, where.number, kind});
    }

    void tick() {
        if (state == 0) {
            walked++;
            begun = 0;
            actsBegun = 0;
            holding = false;
            try {
                root.limits();
                if (root.goOn()) {
                    state = 1;
                } else if (holding) {
                    state = 2;
                }
            } catch (Over over) {
                // The state was set where it ended.
            }
        }
        second++;
    }

    List<Frame> still() {
        List<Frame> all = new ArrayList<>();
        if (state == 0 || state == 2) {
            root.still(all);
        }
        return all;
    }

    /** Answers the first ask that waits for it: whether there is one. */
    boolean answer(long value) {
        for (Frame frame : still()) {
            Leaf leaf = (Leaf) frame;
            if (state == 0 && leaf.node.kind.equals("ask") && !leaf.answered) {
                leaf.answered = true;
                values[leaf.node.name] = value;
                return true;
            }
        }
        return false;
    }

    private long reckon(Node n) {
        switch (n.kind) {
            case "number":
                return n.value;
            case "name":
                return values[n.name];
            case "neg":
                return -reckon(n.sums.get(0));
            default:
                break;
        }
        long a = reckon(n.sums.get(0));
        long b = reckon(n.sums.get(1));
        switch (n.kind) {
            case "+":
                return a + b;
            case "-":
                return a - b;
            case "*":
                return a * b / 1000;
            case "/":
                if (b == 0) {
                    fault(1, n);
                }
                return a * 1000 / b;
            case "<":
                return a < b ? 1000 : 0;
            case "=":
                return a == b ? 1000 : 0;
            default:
                return a > b ? 1000 : 0;
        }
    }

    private void count(Node n) {
        if (begun == 1000 || n.kind.equals("act") && actsBegun == 10) {
            fault(2, n);
        }
        begun++;
        actsBegun += n.kind.equals("act") ? 1 : 0;
    }

    /** Something that was begun and has not ended. */
    abstract class Frame {
        Node node;

        abstract boolean goOn();

        void limits() {
        }

        void still(List<Frame> all) {
            all.add(this);
        }
    }

    final class Seq {
        final List<Node> list;
        int at;
        Frame current;

        Seq(List<Node> list) {
            this.list = list;
        }

        boolean goOn() {
            while (at < list.size()) {
                if (current == null) {
                    current = begin(list.get(at));
                    if (current instanceof Leaf) {
                        return false;
                    }
                }
                if (current != null && !current.goOn()) {
                    return false;
                }
                current = null;
                at++;
            }
            return true;
        }

        void limits() {
            if (current != null) {
                current.limits();
            }
        }

        void still(List<Frame> all) {
            if (current != null) {
                current.still(all);
            }
        }
    }

    /** Begins a statement: null when it is done at once. */
    private Frame begin(Node n) {
        count(n);
        switch (n.kind) {
            case "set":
                values[n.name] = reckon(n.sums.get(0));
                return null;
            case "act":
                int reason = acts.applyAsInt(n.act);
                if (reason > 0) {
                    alarm(10 + reason, n);
                }
                return null;
            case "hold":
                holding = true;
                return null;
            case "stop":
                state = 3;
                throw new Over();
            case "wait":
                long seconds = reckon(n.sums.get(0)) / 1000;
                return seconds < 1 ? null : new Leaf(n, seconds, 0, 0);
            case "until":
                return reckon(n.sums.get(0)) != 0 ? null : new Leaf(n, 0, 0, 0);
            case "ask":
                return new Leaf(n, 0, 0, 0);
            case "ramp":
                return beginRamp(n);
            case "par":
                return new Par(n);
            case "if":
                boolean is = reckon(n.sums.get(0)) != 0;
                return is ? new Inside(n, n.blocks.get(0), 1) : n.blocks.size() < 2 ? null : new Inside(n, n.blocks.get(1), 1);
            case "repeat":
                long times = reckon(n.sums.get(0)) / 1000;
                return times < 1 ? null : new Inside(n, n.blocks.get(0), times);
            case "do":
                return new Inside(n, n.blocks.get(0), 1);
            default:
                Inside limit = new Inside(n, n.blocks.get(0), 1);
                limit.look();
                return limit;
        }
    }

    private Frame beginRamp(Node n) {
        long goal = reckon(n.sums.get(0));
        long length = reckon(n.sums.get(1)) / 1000;
        if (length < 1) {
            values[n.name] = goal;
            return null;
        }
        return new Leaf(n, length, values[n.name], goal);
    }

    final class Leaf extends Frame {
        final long length;
        final long base;
        final long goal;
        final long begin = walked;
        boolean answered;

        Leaf(Node n, long length, long base, long goal) {
            node = n;
            this.length = length;
            this.base = base;
            this.goal = goal;
        }

        @Override
        boolean goOn() {
            long gone = Math.min(length, walked - begin);
            switch (node.kind) {
                case "wait":
                    return gone == length;
                case "until":
                    return reckon(node.sums.get(0)) != 0;
                case "ask":
                    return answered;
                default:
                    values[node.name] = gone == length ? goal : base + Math.floorDiv((goal - base) * gone, length);
                    return gone == length;
            }
        }
    }

    final class Inside extends Frame {
        Node block;
        long times;
        Seq seq;
        boolean passed;

        Inside(Node n, Node block, long times) {
            node = n;
            this.block = block;
            this.times = times;
        }

        @Override
        boolean goOn() {
            while (times > 0) {
                if (seq == null) {
                    count(block);
                    seq = new Seq(block.blocks);
                }
                if (!seq.goOn()) {
                    return false;
                }
                seq = null;
                times--;
            }
            return true;
        }

        void look() {
            if (reckon(node.sums.get(0)) == 0) {
                alarm(3, node);
                passed = true;
                seq = null;
                block = node.blocks.get(1);
            }
        }

        @Override
        void limits() {
            if (node.kind.equals("limit") && !passed) {
                look();
            }
            if (seq != null) {
                seq.limits();
            }
        }

        @Override
        void still(List<Frame> all) {
            if (seq != null) {
                seq.still(all);
            }
        }
    }

    final class Par extends Frame {
        final Seq[] sides;
        final boolean[] ended;

        Par(Node n) {
            node = n;
            sides = new Seq[n.blocks.size()];
            ended = new boolean[sides.length];
        }

        @Override
        boolean goOn() {
            boolean all = true;
            for (int i = 0; i < sides.length; i++) {
                if (sides[i] == null) {
                    count(node.blocks.get(i));
                    sides[i] = new Seq(node.blocks.get(i).blocks);
                }
                ended[i] = ended[i] || sides[i].goOn();
                all &= ended[i];
            }
            return all;
        }

        @Override
        void limits() {
            for (Seq side : sides) {
                if (side != null) {
                    side.limits();
                }
            }
        }

        @Override
        void still(List<Frame> all) {
            for (Seq side : sides) {
                if (side != null) {
                    side.still(all);
                }
            }
        }
    }
}
