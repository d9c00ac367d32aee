import java.util.ArrayDeque;
import java.util.ArrayList;
import java.util.LinkedList;
import java.util.List;
import java.util.Set;
import java.util.TreeSet;
import java.util.function.IntUnaryOperator;

/** The plant's part of the document in its plainest form: all ways are tried, all failures flooded, litre by litre. */
final class HouseModel {
    static final int TANK = 9;
    static final int PUMP = 8;

    final int[] kind;
    final int[] room;
    final int[][] ends;
    final int[] pipeRoom;
    final List<List<int[]>> ports = new ArrayList<>();
    final int[] position;
    final int[] tankLitres;
    final int[] tankLiquid;
    final List<LinkedList<Integer>> litres = new ArrayList<>();
    final int[] last;
    final List<List<int[]>> cleanings = new ArrayList<>();
    final boolean[][] may = new boolean[15][15];
    final int[][] need = new int[15][15];
    final int[] lasts = {0, 86400, 86400, 86400, 86400, 86400};
    final List<Way> open = new ArrayList<>();
    int second;

    static final class Way {
        int from;
        int to;
        int rate;
        int liquid;
        List<int[]> steps;
    }

    HouseModel(int[] kind, int[] room, int[][] ends, int[] pipeRoom) {
        this.kind = kind;
        this.room = room;
        this.ends = ends;
        this.pipeRoom = pipeRoom;
        position = new int[kind.length];
        tankLitres = new int[kind.length];
        tankLiquid = new int[kind.length];
        last = new int[kind.length + pipeRoom.length];
        for (int t = 0; t < kind.length; t++) {
            ports.add(new ArrayList<>());
        }
        for (int s = 0; s < last.length; s++) {
            cleanings.add(new ArrayList<>());
        }
        for (int p = 0; p < ends.length; p++) {
            LinkedList<Integer> cells = new LinkedList<>();
            for (int i = 0; i < pipeRoom[p]; i++) {
                cells.add(0);
            }
            litres.add(cells);
            for (int side = 0; side < 2; side++) {
                if (ends[p][side] >= 0) {
                    ports.get(ends[p][side]).add(new int[] {p, side});
                }
            }
        }
        for (int[] row : need) {
            java.util.Arrays.fill(row, 5);
        }
    }

    /** A small plant, made at random. */
    static HouseModel any(IntUnaryOperator dice) {
        int tanks = 2 + dice.applyAsInt(4);
        int others = dice.applyAsInt(8);
        int[] kind = new int[tanks + others];
        int[] room = new int[tanks + others];
        int[] free = new int[tanks + others];
        int[] portCount = {2, 3, 3, 2, 4, 1, 2, 2, 2};
        for (int t = 0; t < kind.length; t++) {
            boolean tank = t < tanks;
            kind[t] = tank ? TANK : dice.applyAsInt(5) == 0 ? 4 : dice.applyAsInt(9);
            room[t] = tank ? 1 + dice.applyAsInt(30) : 0;
            free[t] = tank ? 99 : portCount[kind[t]];
        }
        int[][] ends = new int[dice.applyAsInt(24) + 1][2];
        int[] pipeRoom = new int[ends.length];
        for (int p = 0; p < ends.length; p++) {
            for (int side = 0; side < 2; side++) {
                int t = dice.applyAsInt(3) == 0 ? dice.applyAsInt(tanks) : dice.applyAsInt(kind.length);
                ends[p][side] = free[t] > 0 && dice.applyAsInt(12) > 0 ? t : -1;
                if (ends[p][side] >= 0) {
                    free[t]--;
                }
            }
            pipeRoom[p] = 1 + dice.applyAsInt(dice.applyAsInt(9) == 0 ? 200 : 4);
        }
        return new HouseModel(kind, room, ends, pipeRoom);
    }

    String text() {
        StringBuilder text = new StringBuilder();
        for (int t = 0; t < kind.length; t++) {
            text.append(kind[t] == TANK ? "tank " + room[t] : kind[t] == PUMP ? "pump" : "valve " + kind[t]).append('\n');
        }
        for (int p = 0; p < ends.length; p++) {
            String a = ends[p][0] < 0 ? "-" : "" + ends[p][0];
            String b = ends[p][1] < 0 ? "-" : "" + ends[p][1];
            text.append("pipe ").append(a).append(' ').append(b).append(' ').append(pipeRoom[p]).append('\n');
        }
        return text.toString();
    }

    static boolean passes(int kind, int position, int a, int b) {
        boolean zeroOne = a + b == 1;
        boolean zeroTwo = a + b == 2 && a != b;
        boolean oneTwo = a + b == 3 && a * b == 2;
        boolean twoThree = a + b == 5;
        switch (kind) {
            case 0:
                return position == 1 && zeroOne;
            case 1:
                return position == 0 && zeroOne || position == 1 && zeroTwo || position == 3 && oneTwo;
            case 2:
                return position == 1 && zeroOne || position == 2 && zeroTwo || position == 3 && oneTwo || position == 4 && a != b;
            case 3:
                return a == 0 && b == 1;
            case 4:
                return position == 0 && (zeroOne || twoThree) || position == 1 && a != b;
            case 5:
                return false;
            case 6:
                return position >= 1 && zeroOne;
            case 7:
                return position == 1 && a == 0 && b == 1;
            case PUMP:
                return a == 0 && b == 1;
            default:
                return false;
        }
    }

    int liquid(int space) {
        if (space < kind.length) {
            return tankLiquid[space];
        }
        for (int litre : litres.get(space - kind.length)) {
            if (litre != 0) {
                return litre;
            }
        }
        return 0;
    }

    int amount(int space) {
        if (space < kind.length) {
            return tankLitres[space];
        }
        int n = 0;
        for (int litre : litres.get(space - kind.length)) {
            n += litre != 0 ? 1 : 0;
        }
        return n;
    }

    boolean holds(int space, int level) {
        for (int[] c : cleanings.get(space)) {
            if (c[0] >= level && second - c[1] < lasts[level]) {
                return true;
            }
        }
        return false;
    }

    boolean mayCome(int space, int what) {
        if (liquid(space) == what) {
            return true;
        }
        if (liquid(space) != 0) {
            return false;
        }
        if (last[space] == 0 || need[last[space]][what] == 0) {
            return true;
        }
        for (int level = need[last[space]][what]; level <= 5; level++) {
            if (holds(space, level)) {
                return true;
            }
        }
        return false;
    }

    int level(int space) {
        if (liquid(space) != 0 || last[space] == 0) {
            return 0;
        }
        for (int level = 5; level > 0; level--) {
            if (holds(space, level)) {
                return level;
            }
        }
        return 0;
    }

    /** To be called around each change: what a space had, and that cleanings end when liquid comes. */
    private void changed(int space, int before) {
        int now = liquid(space);
        if (now != 0) {
            cleanings.get(space).clear();
        } else if (before != 0) {
            last[space] = before;
            cleanings.get(space).clear();
        }
    }

    int portOf(int pipe, int side) {
        List<int[]> list = ports.get(ends[pipe][side]);
        for (int i = 0; i < list.size(); i++) {
            if (list.get(i)[0] == pipe && list.get(i)[1] == side) {
                return i;
            }
        }
        return -1;
    }

    // A way is a list of {pipe, side where it is left}. All of them are tried.
    private List<int[]> best;

    List<int[]> find(int x, int y) {
        best = null;
        for (int p = 0; p < ends.length; p++) {
            for (int side = 0; side < 2; side++) {
                if (ends[p][side] == x) {
                    List<int[]> path = new ArrayList<>();
                    path.add(new int[] {p, 1 - side});
                    extend(path, y);
                }
            }
        }
        return best;
    }

    private void extend(List<int[]> path, int y) {
        int[] step = path.get(path.size() - 1);
        int thing = ends[step[0]][step[1]];
        if (pipeIsTaken(step[0]) || thing < 0) {
            return;
        }
        if (thing == y) {
            if (positions(path) != null && (best == null || isBetter(path, best))) {
                best = new ArrayList<>(path);
            }
            return;
        }
        if (kind[thing] == TANK) {
            return;
        }
        for (int[] port : ports.get(thing)) {
            boolean used = false;
            for (int[] s : path) {
                used |= s[0] == port[0];
            }
            if (!used) {
                path.add(new int[] {port[0], 1 - port[1]});
                if (positions(path) != null) {
                    extend(path, y);
                }
                path.remove(path.size() - 1);
            }
        }
    }

    private boolean pipeIsTaken(int p) {
        for (Way w : open) {
            for (int[] s : w.steps) {
                if (s[0] == p) {
                    return true;
                }
            }
        }
        return false;
    }

    private boolean isBetter(List<int[]> a, List<int[]> b) {
        int la = 0;
        int lb = 0;
        for (int[] s : a) {
            la += pipeRoom[s[0]];
        }
        for (int[] s : b) {
            lb += pipeRoom[s[0]];
        }
        if (la != lb) {
            return la < lb;
        }
        if (a.size() != b.size()) {
            return a.size() < b.size();
        }
        for (int i = 0; i < a.size(); i++) {
            if (a.get(i)[0] != b.get(i)[0]) {
                return a.get(i)[0] < b.get(i)[0];
            }
        }
        return false;
    }

    /** What position each thing needs (-1 not gone over), null when there is none or open ways are in the way. */
    private int[] positions(List<int[]> path) {
        int[] needs = needs(path);
        if (needs == null) {
            return null;
        }
        for (Way w : open) {
            int[] theirs = needs(w.steps);
            for (int t = 0; t < kind.length; t++) {
                if (needs[t] >= 0 && theirs[t] >= 0 && (kind[t] == PUMP || needs[t] != theirs[t])) {
                    return null;
                }
            }
        }
        return needs;
    }

    private int[] needs(List<int[]> path) {
        int[] needs = new int[kind.length];
        java.util.Arrays.fill(needs, -1);
        for (int i = 0; i + 1 < path.size(); i++) {
            int t = ends[path.get(i)[0]][path.get(i)[1]];
            for (int q = 0; q < 10 && needs[t] < 0; q++) {
                boolean all = true;
                for (int j = 0; j + 1 < path.size(); j++) {
                    int[] in = path.get(j);
                    int[] out = path.get(j + 1);
                    if (ends[in[0]][in[1]] == t) {
                        all &= passes(kind[t], q, portOf(in[0], in[1]), portOf(out[0], 1 - out[1]));
                    }
                }
                if (all) {
                    needs[t] = q;
                }
            }
            if (needs[t] < 0) {
                return null;
            }
        }
        return needs;
    }

    private Set<Integer> flood(int what, int[] stands) {
        ArrayDeque<Integer> queue = new ArrayDeque<>();
        for (int s = 0; s < last.length; s++) {
            if ((s >= kind.length || kind[s] == TANK) && liquid(s) == what) {
                queue.add(s);
            }
        }
        for (Way w : open) {
            if (w.liquid == what) {
                queue.add(w.to);
                for (int[] s : w.steps) {
                    queue.add(kind.length + s[0]);
                }
            }
        }
        Set<Integer> wet = new TreeSet<>();
        while (!queue.isEmpty()) {
            int s = queue.remove();
            if (!wet.add(s)) {
                continue;
            }
            if (s < kind.length) {
                for (int[] port : ports.get(s)) {
                    queue.add(kind.length + port[0]);
                }
                continue;
            }
            int p = s - kind.length;
            for (int side = 0; side < 2; side++) {
                int t = ends[p][side];
                if (t >= 0 && kind[t] == TANK) {
                    queue.add(t);
                } else if (t >= 0) {
                    List<int[]> all = ports.get(t);
                    for (int b = 0; b < all.size(); b++) {
                        if (passes(kind[t], stands[t], portOf(p, side), b)) {
                            queue.add(kind.length + all.get(b)[0]);
                        }
                    }
                }
            }
        }
        return wet;
    }

    /** {failure, space, liquid, liquid}, or null when it is safe. */
    int[] danger() {
        int[] found = meeting(position, 1);
        for (int v = 0; v < kind.length && found == null; v++) {
            for (int q = 0; q < 10 && kind[v] < PUMP && found == null; q++) {
                if (q != position[v] && (kind[v] != 4 || q != 1)) {
                    int[] stands = position.clone();
                    stands[v] = q;
                    found = meeting(stands, 2 + 10 * v + q);
                }
            }
        }
        return found;
    }

    private int[] meeting(int[] stands, int failure) {
        List<Set<Integer>> wet = new ArrayList<>();
        for (int l = 0; l <= 14; l++) {
            wet.add(l == 0 ? new TreeSet<>() : flood(l, stands));
        }
        for (int s = 0; s < last.length; s++) {
            for (int a = 1; a <= 14; a++) {
                for (int b = a + 1; b <= 14; b++) {
                    if (!may[a][b] && wet.get(a).contains(s) && wet.get(b).contains(s)) {
                        return new int[] {failure, s, a, b};
                    }
                }
            }
        }
        return null;
    }

    boolean fill(int tank, int what, long howMany) {
        if (tank < 0 || tank >= kind.length || kind[tank] != TANK || what < 1 || what > 14 || howMany < 1 || howMany > 100000) {
            return false;
        }
        if (howMany + tankLitres[tank] > room[tank] || !mayCome(tank, what)) {
            return false;
        }
        int before = tankLiquid[tank];
        tankLiquid[tank] = what;
        if (danger() != null) {
            tankLiquid[tank] = before;
            return false;
        }
        tankLitres[tank] += (int) howMany;
        changed(tank, before);
        return true;
    }

    private boolean isTank(int x) {
        return x >= 0 && x < kind.length && kind[x] == TANK;
    }

    private boolean isHolder(int x) {
        return isTank(x) || x >= kind.length && x < last.length;
    }

    private Way wayFrom(int x, int y) {
        for (Way w : open) {
            if (w.from == x && w.to == y) {
                return w;
            }
        }
        return null;
    }

    private boolean isOnWay(int space) {
        for (Way w : open) {
            if (w.from == space || w.to == space) {
                return true;
            }
        }
        return space >= kind.length && pipeIsTaken(space - kind.length);
    }

    boolean isBound(int what, int x, int y) {
        switch (what) {
            case 0:
            case 1:
                return isTank(x) && isTank(y) && x != y;
            case 2:
                return x >= 0 && x < kind.length && kind[x] < PUMP;
            default:
                return isHolder(x);
        }
    }

    int act(int what, int x, int y, int z) {
        if (!isBound(what, x, y)) {
            return 1;
        }
        switch (what) {
            case 0:
                return openWay(x, y, z);
            case 1:
                if (wayFrom(x, y) == null) {
                    return 3;
                }
                close(wayFrom(x, y));
                return 0;
            case 2:
                return setPosition(x, y);
            case 3:
                if (liquid(x) != 0 || isOnWay(x)) {
                    return 3;
                }
                cleanings.get(x).add(new int[] {y, second});
                return 0;
            default:
                return isOnWay(x) ? 3 : drain(x);
        }
    }

    private int drain(int x) {
        int before = liquid(x);
        if (x < kind.length) {
            tankLitres[x] = 0;
            tankLiquid[x] = 0;
        } else {
            litres.get(x - kind.length).replaceAll(litre -> 0);
        }
        changed(x, before);
        return 0;
    }

    private int setPosition(int valve, int to) {
        for (Way w : open) {
            if (needs(w.steps)[valve] >= 0) {
                return 3;
            }
        }
        int before = position[valve];
        position[valve] = to;
        if (danger() != null) {
            position[valve] = before;
            return 7;
        }
        return 0;
    }

    private int openWay(int x, int y, int z) {
        if (wayFrom(x, y) != null) {
            return 3;
        }
        if (tankLitres[x] == 0) {
            return 4;
        }
        List<int[]> path = find(x, y);
        if (path == null) {
            return 5;
        }
        int what = tankLiquid[x];
        for (int[] s : path) {
            if (!mayCome(kind.length + s[0], what)) {
                return 6;
            }
        }
        if (!mayCome(y, what)) {
            return 6;
        }
        Way w = new Way();
        w.from = x;
        w.to = y;
        w.rate = z;
        w.liquid = what;
        w.steps = path;
        int[] needs = positions(path);
        int[] before = position.clone();
        for (int t = 0; t < kind.length; t++) {
            if (needs[t] >= 0 && kind[t] < PUMP) {
                position[t] = needs[t];
            }
        }
        open.add(w);
        if (danger() != null) {
            open.remove(w);
            System.arraycopy(before, 0, position, 0, before.length);
            return 7;
        }
        return 0;
    }

    void close(Way w) {
        open.remove(w);
        int[] needs = needs(w.steps);
        for (int t = 0; t < kind.length; t++) {
            boolean over = false;
            for (Way other : open) {
                over |= needs(other.steps)[t] >= 0;
            }
            if (needs[t] >= 0 && !over && kind[t] < PUMP) {
                position[t] = kind[t] == 1 ? 2 : 0;
            }
        }
    }

    void tick() {
        for (Way w : open) {
            for (int i = 0; i < w.rate && moves(w); i++) {
                continue;
            }
        }
        second++;
    }

    private boolean moves(Way w) {
        if (tankLitres[w.from] == 0 || tankLiquid[w.from] != w.liquid) {
            return false;
        }
        int[] end = w.steps.get(w.steps.size() - 1);
        int coming = end[1] == 1 ? litres.get(end[0]).getLast() : litres.get(end[0]).getFirst();
        if (coming != 0 && (tankLitres[w.to] == room[w.to] || !mayCome(w.to, coming))) {
            return false;
        }
        int[] before = new int[last.length];
        for (int s = 0; s < last.length; s++) {
            before[s] = liquid(s);
        }
        int litre = w.liquid;
        tankLitres[w.from]--;
        tankLiquid[w.from] = tankLitres[w.from] == 0 ? 0 : w.liquid;
        for (int[] s : w.steps) {
            LinkedList<Integer> cells = litres.get(s[0]);
            if (s[1] == 1) {
                cells.addFirst(litre);
                litre = cells.removeLast();
            } else {
                cells.addLast(litre);
                litre = cells.removeFirst();
            }
        }
        if (litre != 0) {
            tankLitres[w.to]++;
            tankLiquid[w.to] = litre;
        }
        for (int s = 0; s < last.length; s++) {
            changed(s, before[s]);
        }
        return true;
    }
}
