/** Terms, ACTS and REASONS, and promises 11, 12: what is bound, the first reason of several, and what a refused act leaves. */
public final class ActEdgesTest {
    /** Tanks 0, 1, 2; valves 3, 4; pump 5; pipes 6 to 9: 0 - 3 - 1, and 1 - 4 - 2. */
    private static final String PLANT = "tank 10\ntank 10\ntank 10\nvalve 0\nvalve 0\npump\npipe 0 3 2\npipe 3 1 2\npipe 1 4 1\npipe 4 2 1\n";

    public static void main(String[] args) {
        Check check = new Check();
        kinds(check);
        ranges(check);
        rangesByHand(check);
        notBound(check);
        spacesOfEachKind(check);
        firstReasonOfOpen(check);
        firstReasonOfOthers(check);
        barredOnes(check);
        refusedOnesLeaveAll(check);
        boundBeforeThePlant(check);
        actsOfRuns(check);
        check.done();
    }

    private static void kinds(Check check) {
        BreweryHouse h = Hands.house(PLANT);
        for (int k = 0; k < 32; k++) {
            check.due("nothing is bound: act " + k, h.act(k), 1);
        }
        for (int k : new int[] {-1, 32, Integer.MIN_VALUE, Integer.MAX_VALUE}) {
            check.due("bind of " + k, h.bind(k, 4, 0, 0, 0), false);
            check.due("act(" + k + ")", h.act(k), -1);
            check.due("bars(" + k + ")", h.bars(k), -1);
        }
        check.due("32 alarms, none of what is no act", h.alarm(31, 2) * 100 + h.alarm(32, 2), 1099);
        for (int what : new int[] {-1, 5, Integer.MIN_VALUE, Integer.MAX_VALUE}) {
            check.due("bind to what " + what, h.bind(0, what, 0, 1, 1), false);
        }
        check.due("still not bound", h.act(0), 1);
        for (int k : new int[] {0, 31}) {
            check.due("bind of " + k, h.bind(k, 4, k == 0 ? 0 : 2, 0, 0), true);
            check.due("act(" + k + ")", h.act(k), 0);
        }
        check.due("act 1 is not bound", h.act(1), 1);
    }

    /** What is refused binds nothing: the act does what it did before. */
    private static void ranges(Check check) {
        int[][] due = {
            {0, 1, 1}, {0, 100, 1}, {0, 0, 0}, {0, 101, 0}, {0, -1, 0}, {0, Integer.MAX_VALUE, 0}, {0, Integer.MIN_VALUE, 0},
            {2, 0, 1}, {2, 9, 1}, {2, -1, 0}, {2, 10, 0}, {2, Integer.MAX_VALUE, 0}, {2, Integer.MIN_VALUE, 0},
            {3, 1, 1}, {3, 5, 1}, {3, 0, 0}, {3, 6, 0}, {3, Integer.MAX_VALUE, 0}, {3, Integer.MIN_VALUE, 0}};
        for (int[] d : due) {
            BreweryHouse h = Hands.house(PLANT);
            h.bind(7, 2, 3, 6, 0);
            String what = "what " + d[0] + " with " + d[1];
            boolean bound = d[0] == 0 ? h.bind(7, 0, 0, 1, d[1]) : d[0] == 2 ? h.bind(7, 2, 4, d[1], 0) : h.bind(7, 3, 0, d[1], 0);
            check.due(what, bound, d[2] == 1);
            check.due(what + ": act", h.act(7), d[2] == 1 && d[0] == 0 ? 4 : 0);
            check.due(what + ": what it did before", h.space(3, 4), d[2] == 1 ? 0 : 6);
            check.due(what + ": what it does now", h.space(4, 4), d[2] == 1 && d[0] == 2 ? d[1] : 0);
        }
    }

    private static void rangesByHand(Check check) {
        BreweryHouse h = Hands.house(PLANT);
        // z is looked at for OPEN alone; y of CLOSE is a tank or none, that of DRAIN nothing.
        for (int z : new int[] {Integer.MIN_VALUE, -1, 0, 101, Integer.MAX_VALUE}) {
            check.due("CLOSE, z " + z, h.bind(0, 1, 0, 1, z), true);
            check.due("POSITION, z " + z, h.bind(0, 2, 3, 1, z), true);
            check.due("CLEAN, z " + z, h.bind(0, 3, 0, 1, z), true);
            check.due("DRAIN, z " + z, h.bind(0, 4, 0, 0, z), true);
        }
        // x is looked at when it is done.
        for (int x : new int[] {Integer.MIN_VALUE, -1, 10, 44, Integer.MAX_VALUE}) {
            for (int what = 0; what < 5; what++) {
                check.due("what " + what + ", x " + x, h.bind(0, what, x, 1, 1), true);
                check.due("what " + what + ", x " + x + ", act", h.act(0), 1);
            }
        }
    }

    private static void notBound(Check check) {
        BreweryHouse h = Hands.house(PLANT);
        h.fill(0, 1, 5);
        int[][] pairs = {{0, 0}, {1, 1}, {0, 3}, {3, 0}, {0, 5}, {5, 0}, {0, 6}, {6, 0}, {0, -1}, {-1, 0}, {0, 10}, {10, 0}, {3, 4}, {6, 7}};
        for (int[] p : pairs) {
            check.due("OPEN " + p[0] + ", " + p[1], Hands.open(h, p[0], p[1], 1), 1);
            check.due("CLOSE " + p[0] + ", " + p[1], Hands.close(h, p[0], p[1]), 1);
        }
        check.due("no way is open", h.way(0, 0), -1);
    }

    private static void spacesOfEachKind(Check check) {
        BreweryHouse h = Hands.house(PLANT);
        for (int x = -1; x <= 10; x++) {
            boolean holds = x >= 0 && x <= 2 || x >= 6 && x <= 9;
            check.due("CLEAN " + x, Hands.clean(h, x, 1), holds ? 0 : 1);
            check.due("DRAIN " + x, Hands.drain(h, x), holds ? 0 : 1);
            check.due("POSITION of " + x, Hands.turn(h, x, 2), x == 3 || x == 4 ? 0 : 1);
        }
    }

    /** OPEN: 1, 2, 3, 4, 5, 6, 7: with several of them the first is told. */
    private static void firstReasonOfOpen(Check check) {
        BreweryHouse h = Hands.house(PLANT);
        Check.read(h, 1, "bar a31 when c0;");
        h.watch(0, 4, 0, 0);
        h.tick(1);
        check.due("1 before 2", Hands.open(h, 0, 0, 1), 1);
        check.due("2 before 4", Hands.open(h, 0, 1, 1), 2);
        h.pass(1, 1, 2, 3600);
        check.due("4: the first tank is empty", Hands.open(h, 0, 1, 1), 4);
        check.due("4 before 5", Hands.open(h, 0, 2, 1), 4);
        h.fill(0, 1, 3);
        check.due("5: there is no way", Hands.open(h, 0, 2, 1), 5);
        check.due("open", Hands.open(h, 0, 1, 3), 0);
        h.tick(1);
        check.due("the first tank is empty, but it is open", Hands.open(h, 0, 1, 1), 3);
        h.watch(0, 5, 0, 0);
        // 5 before 6: what is in the second tank does not matter without a way.
        h = Hands.house(PLANT);
        h.fill(0, 1, 3);
        check.due("another liquid in tank 2", h.fill(2, 2, 3), true);
        check.due("5 before 6", Hands.open(h, 0, 2, 1), 5);
        // 6 before 7: tank 1 was used, and tank 2 has a liquid that tank 1 would be flooded to.
        h.fill(1, 1, 1);
        check.due("tank 1 may not have liquid 1 as valve 4 may fail", h.space(1, 1), 0);
        h = Hands.house(PLANT);
        h.fill(1, 1, 1);
        Hands.drain(h, 1);
        h.fill(0, 1, 3);
        h.fill(2, 2, 3);
        check.due("6 before 7", Hands.open(h, 0, 1, 1), 6);
        Hands.clean(h, 1, 5);
        check.due("7", Hands.open(h, 0, 1, 1), 7);
        Hands.drain(h, 2);
        check.due("0", Hands.open(h, 0, 1, 1), 0);
        check.due("3", Hands.open(h, 0, 1, 1), 3);
        // 6: another liquid in the second tank, or in a pipe; the way from the other side.
        h = Hands.house(PLANT);
        h.may(1, 2);
        h.fill(0, 1, 3);
        h.fill(1, 2, 3);
        check.due("6: the second tank has another one", Hands.open(h, 0, 1, 1), 6);
        Hands.drain(h, 1);
        check.due("6: the second tank is not clean", Hands.open(h, 0, 1, 1), 6);
        h.need(2, 1, 0);
        check.due("0: it needs nothing", Hands.open(h, 0, 1, 1), 0);
    }

    private static void firstReasonOfOthers(Check check) {
        BreweryHouse h = Hands.house(PLANT);
        Check.read(h, 1, "bar a31 when c0;");
        h.fill(0, 1, 5);
        Hands.open(h, 0, 1, 1);
        h.watch(0, 4, 0, 0);
        h.tick(1);
        check.due("CLOSE: 1 before 2", Hands.close(h, 1, 1), 1);
        check.due("CLOSE: 2 before 3", Hands.close(h, 1, 2), 2);
        check.due("CLOSE: 2", Hands.close(h, 0, 1), 2);
        check.due("POSITION: 1 before 2", Hands.turn(h, 0, 1), 1);
        check.due("POSITION: 2 before 3", Hands.turn(h, 3, 1), 2);
        check.due("CLEAN: 1 before 2", Hands.clean(h, 3, 1), 1);
        check.due("CLEAN: 2 before 3", Hands.clean(h, 0, 1), 2);
        check.due("DRAIN: 1 before 2", Hands.drain(h, 3), 1);
        check.due("DRAIN: 2 before 3", Hands.drain(h, 0), 2);
        h.pass(1, 1, 2, 3600);
        check.due("POSITION: 3", Hands.turn(h, 3, 1), 3);
        check.due("POSITION of another valve", Hands.turn(h, 4, 5), 0);
        check.due("CLEAN: 3 of tank 0", Hands.clean(h, 0, 1), 3);
        check.due("CLEAN: 3 of tank 1", Hands.clean(h, 1, 1), 3);
        check.due("CLEAN: 3 of its pipes", Hands.clean(h, 6, 1) + Hands.clean(h, 7, 1), 6);
        check.due("CLEAN of the others", Hands.clean(h, 2, 1) + Hands.clean(h, 8, 1) + Hands.clean(h, 9, 1), 0);
        check.due("DRAIN: 3", Hands.drain(h, 0) + Hands.drain(h, 1) + Hands.drain(h, 6) + Hands.drain(h, 7), 12);
        check.due("DRAIN of the others", Hands.drain(h, 2) + Hands.drain(h, 8) + Hands.drain(h, 9), 0);
        check.due("CLOSE: 3", Hands.close(h, 1, 0) + Hands.close(h, 1, 2), 6);
        check.due("CLOSE", Hands.close(h, 0, 1), 0);
        check.due("CLEAN: 3 with liquid", Hands.clean(h, 0, 1) + Hands.clean(h, 6, 1), 6);
        check.due("CLEAN without", Hands.clean(h, 1, 1) + Hands.clean(h, 7, 1), 0);
        check.due("DRAIN behind CLOSE", Hands.drain(h, 0) + Hands.drain(h, 6), 0);
        // POSITION: 3 before 7, and 7.
        h = Hands.house("tank 9\ntank 9\ntank 9\nvalve 2\nvalve 0\npipe 0 3 1\npipe 3 1 1\npipe 3 4 1\npipe 4 2 1\n");
        h.fill(0, 1, 5);
        Hands.open(h, 0, 1, 1);
        h.fill(2, 2, 1);
        check.due("POSITION: 3, though it would not be safe", Hands.turn(h, 3, 4), 3);
        check.due("POSITION: 7", Hands.turn(h, 4, 1), 7);
        Hands.close(h, 0, 1);
        check.due("POSITION: 7 behind CLOSE, where one valve would be left", Hands.turn(h, 3, 4), 7);
        check.due("POSITION: as it was told before", Hands.turn(h, 3, 0), 0);
    }

    private static void barredOnes(Check check) {
        BreweryHouse h = Hands.house(PLANT);
        Check.read(h, 1, "bar a0 a1 a2 a3 a4 when not c0 for 1 latched;");
        h.fill(0, 1, 5);
        int[][] bound = {{0, 0, 1, 1}, {1, 0, 1, 0}, {2, 4, 7, 0}, {3, 2, 3, 0}, {4, 2, 0, 0}};
        for (int[] b : bound) {
            h.bind(b[0], b[0], b[1], b[2], b[3]);
        }
        check.due("not barred: OPEN, CLOSE", h.act(0) + h.act(1), 0);
        h.tick(1);
        for (int k = 0; k < 5; k++) {
            check.due("barred: " + k, h.act(k), 2);
            check.due("alarm: " + k, h.alarm(k, 0) * 10000 + (h.alarm(k, 1) + 1) * 100 + h.alarm(k, 2), 10012);
        }
        check.due("nothing was done", (h.way(0, 0) + 1) + h.space(4, 4), 0);
        h.watch(0, 4, 0, 0);
        h.tick(1);
        check.due("off, but latched", h.act(2), 2);
        h.reset(1);
        check.due("reset", h.act(2), 0);
        check.due("done", h.space(4, 4), 7);
    }

    private static final Twins.Deed RICH = h -> {
        Check.read(h, 0, "tank 10\ntank 10\ntank 10\nvalve 0\nvalve 6\npipe 0 3 2\npipe 3 1 2\npipe 1 4 1\n");
        h.fill(2, 3, 4);
        Hands.drain(h, 2);
        Hands.clean(h, 2, 2);
        h.fill(0, 1, 8);
        h.bind(0, 0, 0, 1, 1);
        h.bind(1, 0, 1, 0, 1);
        h.bind(2, 2, 4, 5, 0);
        h.bind(3, 4, 2, 0, 0);
        h.act(0);
        h.tick(1);
    };

    /** A refused act is an alarm, and nothing else. */
    private static void refusedOnesLeaveAll(Check check) {
        int[][] refused = {{0, 0, 1, 5, 3}, {0, 1, 0, 5, 4}, {0, 1, 1, 5, 1}, {0, 0, 2, 5, 5}, {1, 1, 0, 0, 3}, {1, 0, 2, 0, 3}, {2, 3, 5, 0, 3},
            {2, 0, 5, 0, 1}, {3, 0, 5, 0, 3}, {3, 1, 5, 0, 3}, {3, 5, 5, 0, 3}, {3, 6, 5, 0, 3}, {3, 3, 5, 0, 1}, {4, 0, 0, 0, 3}, {4, 1, 0, 0, 3},
            {4, 5, 0, 0, 3}, {4, 6, 0, 0, 3}, {4, 4, 0, 0, 1}, {4, 8, 0, 0, 1}};
        // Both have the act bound; the other one gets an act that is not bound, so that alarms are as many.
        for (int[] r : refused) {
            BreweryHouse one = new BreweryHouse();
            BreweryHouse other = new BreweryHouse();
            RICH.on(one);
            RICH.on(other);
            String what = "act " + r[0] + " of " + r[1] + ", " + r[2];
            check.due(what, Hands.doing(one, r[0], r[1], r[2], r[3]), r[4]);
            other.act(30);
            for (int i = 0; i < 2; i++) {
                check.due(what + " leaves all", withoutAlarms(one).equals(withoutAlarms(other)), true);
                one.tick(1);
                other.tick(1);
            }
            check.due(what + " is an alarm", one.alarm(0, 0) * 100 + one.alarm(0, 2), 110 + r[4]);
            check.due(what + " by hand", one.alarm(0, 1), -1);
            check.due(what + " is one alarm", one.alarm(1, 0), -1);
        }
    }

    private static String withoutAlarms(BreweryHouse h) {
        return Twins.look(h).replaceAll("alarm [-0-9,]*", "");
    }

    private static void boundBeforeThePlant(Check check) {
        BreweryHouse h = new BreweryHouse();
        check.due("bind without a plant", h.bind(0, 4, 0, 0, 0), true);
        check.due("act without a plant", h.act(0), 1);
        Check.read(h, 0, "pump\n");
        check.due("a pump", h.act(0), 1);
        Check.read(h, 0, "tank 5\n");
        check.due("a tank", h.act(0), 0);
        Check.read(h, 0, "valve 0\n");
        check.due("no tank any more", h.act(0), 1);
        Check.read(h, 0, "pipe - - 1\n");
        check.due("a pipe", h.act(0), 0);
    }

    private static void actsOfRuns(Check check) {
        BreweryHouse h = Hands.house(PLANT);
        Hands.take(h, "act 0;act 1;act 2;act 2;");
        h.fill(0, 1, 5);
        h.bind(0, 0, 0, 1, 1);
        h.bind(1, 0, 0, 1, 1);
        h.bind(2, 1, 0, 1, 1);
        h.start();
        h.tick(3);
        check.due("two are refused", h.alarm(0, 1) * 10000 + h.alarm(0, 2) * 100 + h.alarm(1, 1), 11303);
        check.due("not more", h.alarm(2, 0), -1);
        check.due("opened and closed in one second: nothing moved", h.space(0, 1), 5);
    }
}
