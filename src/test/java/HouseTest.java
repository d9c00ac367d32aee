/** Promises 4 to 7, 11, 12 and 26 to 28: liquids, ways, cleanness and safety. */
public final class HouseTest {
    private static final String LINE = "tank 10\ntank 10\nvalve 0\npipe 0 2 3\npipe 2 1 2\n";

    public static void main(String[] args) {
        Check check = new Check();
        filling(check);
        told(check);
        binding(check);
        reasons(check);
        theWay(check);
        positions(check);
        sharedValve(check);
        moving(check);
        backAndForth(check);
        cleanness(check);
        safety(check);
        twoSeats(check);
        spaces(check);
        check.done();
    }

    private static BreweryHouse house(String plant) {
        BreweryHouse h = new BreweryHouse();
        Check.read(h, 0, plant);
        return h;
    }

    private static int doing(BreweryHouse h, int what, int x, int y, int z) {
        h.bind(31, what, x, y, z);
        return h.act(31);
    }

    private static int open(BreweryHouse h, int x, int y, int z) {
        return doing(h, 0, x, y, z);
    }

    private static int close(BreweryHouse h, int x, int y) {
        return doing(h, 1, x, y, 0);
    }

    private static int turn(BreweryHouse h, int valve, int position) {
        return doing(h, 2, valve, position, 0);
    }

    private static int clean(BreweryHouse h, int space, int level) {
        return doing(h, 3, space, level, 0);
    }

    private static int drain(BreweryHouse h, int space) {
        return doing(h, 4, space, 0, 0);
    }

    private static void way(Check check, String what, BreweryHouse h, int k, int... due) {
        for (int i = 0; i < due.length; i++) {
            check.due("26: " + what + ", " + i, h.way(k, i), due[i]);
        }
        check.due("26: " + what + ", behind", h.way(k, due.length), -1);
    }

    private static void filling(Check check) {
        BreweryHouse h = house("tank 10\ntank 100000\npump\nvalve 0\npipe 0 - 5\n");
        check.due("4: 0 litres", h.fill(0, 1, 0), false);
        check.due("4: less", h.fill(0, 1, -5), false);
        check.due("4: too many", h.fill(1, 1, 100001), false);
        check.due("4: far too many", h.fill(1, 1, 1L << 32 | 5), false);
        check.due("4: liquid 0", h.fill(0, 0, 1), false);
        check.due("4: liquid 15", h.fill(0, 15, 1), false);
        check.due("4: a pump", h.fill(2, 1, 1), false);
        check.due("4: a valve", h.fill(3, 1, 1), false);
        check.due("4: a pipe", h.fill(4, 1, 1), false);
        check.due("4: no space", h.fill(-1, 1, 1) || h.fill(5, 1, 1), false);
        check.due("4: does not fit", h.fill(0, 1, 11), false);
        check.due("4: most", h.fill(1, 14, 100000), true);
        check.due("4: full", h.fill(1, 14, 1), false);
        check.due("4: some", h.fill(0, 1, 4), true);
        check.due("4: another liquid", h.fill(0, 2, 1), false);
        check.due("4: too many more", h.fill(0, 1, 7), false);
        check.due("4: more", h.fill(0, 1, 6), true);
        check.due("27: litres", h.space(0, 1), 10);
        drain(h, 0);
        check.due("4: not clean, the same one either", h.fill(0, 1, 1), false);
        check.due("6: needs nothing", h.need(1, 1, 0), true);
        check.due("4: needs nothing", h.fill(0, 1, 1), true);
    }

    private static void told(Check check) {
        BreweryHouse h = new BreweryHouse();
        check.due("5: new", h.may(1, 14), true);
        check.due("5: not new", h.may(1, 14), false);
        check.due("5: other way round", h.may(14, 1), false);
        check.due("5: the same", h.may(3, 3), false);
        check.due("5: 0", h.may(0, 3) || h.may(3, 0), false);
        check.due("5: 15", h.may(15, 3) || h.may(3, 15), false);
        check.due("6: right", h.need(1, 14, 5) && h.need(14, 14, 0), true);
        check.due("6: wrong liquids", h.need(0, 1, 1) || h.need(1, 0, 1) || h.need(15, 1, 1) || h.need(1, 15, 1), false);
        check.due("6: wrong levels", h.need(1, 1, -1) || h.need(1, 1, 6), false);
        check.due("7: right", h.lasts(1, 0) && h.lasts(5, 1000000), true);
        check.due("7: wrong levels", h.lasts(0, 5) || h.lasts(6, 5), false);
        check.due("7: wrong seconds", h.lasts(1, -1) || h.lasts(1, 1000001), false);
    }

    private static void binding(Check check) {
        BreweryHouse h = house(LINE);
        check.due("11: k", h.bind(-1, 0, 0, 1, 5) || h.bind(32, 0, 0, 1, 5), false);
        check.due("11: what", h.bind(0, -1, 0, 1, 5) || h.bind(0, 5, 0, 1, 5), false);
        check.due("11: litres", h.bind(0, 0, 0, 1, 0) || h.bind(0, 0, 0, 1, 101), false);
        check.due("11: positions", h.bind(0, 2, 2, -1, 1) || h.bind(0, 2, 2, 10, 1), false);
        check.due("11: levels", h.bind(0, 3, 0, 0, 1) || h.bind(0, 3, 0, 6, 1), false);
        check.due("12: refused ones do not bind", h.act(0), 1);
        check.due("11: z for OPEN alone", h.bind(1, 1, 0, 1, -9) && h.bind(2, 2, 2, 9, -9) && h.bind(3, 3, 0, 5, 999), true);
        check.due("11: y of DRAIN is free", h.bind(4, 4, 0, -77, 0), true);
        check.due("11: bound", h.bind(0, 0, 0, 1, 100) && h.bind(31, 0, 0, 1, 1), true);
        check.due("12: no act", h.act(-1) + h.act(32), -2);
        check.due("25: that is no alarm", h.alarm(1, 0), -1);
        check.due("12: bound anew", h.bind(0, 4, 0, 0, 0), true);
        check.due("12: done", h.act(0), 0);
    }

    private static void reasons(Check check) {
        BreweryHouse h = house("tank 10\ntank 10\nvalve 0\npump\npipe 0 2 3\npipe 2 1 2\ntank 5\n");
        check.due("12: OPEN, the same tank", open(h, 0, 0, 1), 1);
        check.due("12: OPEN, no tank", open(h, 0, 2, 1) + open(h, 3, 1, 1) + open(h, -1, 1, 1) + open(h, 0, 99, 1), 4);
        check.due("12: CLOSE, no tank", close(h, 0, 2) + close(h, 1, 1), 2);
        check.due("12: POSITION, no valve", turn(h, 0, 1) + turn(h, 3, 1) + turn(h, -1, 1) + turn(h, 5, 1), 4);
        check.due("12: CLEAN, no space", clean(h, 2, 1) + clean(h, 3, 1) + clean(h, 7, 1) + clean(h, -1, 1), 4);
        check.due("12: DRAIN, no space", drain(h, 2) + drain(h, 3) + drain(h, 7), 3);
        check.due("12: OPEN, empty", open(h, 0, 1, 1), 4);
        h.fill(0, 1, 5);
        check.due("12: OPEN, no way", open(h, 0, 4, 1), 5);
        check.due("12: OPEN, empty before no way", open(h, 4, 0, 1), 4);
        check.due("12: CLOSE, not open", close(h, 0, 1), 3);
        check.due("12: OPEN", open(h, 0, 1, 1), 0);
        check.due("12: OPEN, it is open", open(h, 0, 1, 1), 3);
        check.due("12: the other way round is another one", open(h, 1, 0, 1), 4);
        check.due("12: POSITION on the way", turn(h, 2, 1), 3);
        check.due("12: CLEAN on the way", clean(h, 0, 1) + clean(h, 1, 1) + clean(h, 5, 1) + clean(h, 6, 1), 12);
        check.due("12: DRAIN on the way", drain(h, 0) + drain(h, 1) + drain(h, 5) + drain(h, 6), 12);
        check.due("12: CLOSE", close(h, 0, 1), 0);
        check.due("12: CLEAN with liquid", clean(h, 0, 1), 3);
        check.due("12: DRAIN", drain(h, 0), 0);
        check.due("12: DRAIN of nothing", drain(h, 0), 0);
        check.due("12: CLEAN", clean(h, 0, 4), 0);
        check.due("25: last alarm, node", h.alarm(33, 1), -1);
        check.due("25: last alarm, kind", h.alarm(33, 2), 13);
        check.due("25: all alarms", h.alarm(34, 2), -1);
    }

    private static void theWay(Check check) {
        // Fewer litres before fewer pipes.
        BreweryHouse h = house("tank 9\ntank 9\nvalve 6\nvalve 6\npipe 0 1 7\npipe 0 2 2\npipe 2 3 2\npipe 3 1 2\n");
        h.fill(0, 1, 9);
        check.due("12: three pipes", open(h, 0, 1, 1), 0);
        way(check, "three pipes", h, 0, 0, 1, 3, 1, 2, 3);
        // Fewer pipes of equal litres.
        h = house("tank 9\ntank 9\nvalve 6\nvalve 6\npipe 0 2 2\npipe 2 3 2\npipe 3 1 2\npipe 0 1 6\n");
        h.fill(0, 1, 9);
        check.due("12: one pipe", open(h, 0, 1, 1), 0);
        way(check, "one pipe", h, 0, 0, 1, 1, 3);
        // Lesser numbers where they differ first.
        h = house("tank 9\ntank 9\nvalve 6\nvalve 6\npipe 2 1 3\npipe 3 1 2\npipe 0 3 3\npipe 0 2 2\n");
        h.fill(0, 1, 9);
        check.due("12: two pipes", open(h, 0, 1, 1), 0);
        way(check, "two pipes", h, 0, 0, 1, 2, 2, 1);
        check.due("26: no second way", h.way(1, 0) + h.way(-1, 0) + h.way(0, -1), -3);
        // Over no tank, not against pumps and valves that pass in one direction.
        h = house("tank 9\ntank 9\ntank 9\npump\nvalve 3\nvalve 7\nvalve 5\npipe 0 2 1\npipe 2 1 1\npipe 1 3 1\npipe 3 0 1\n"
                + "pipe 1 4 1\npipe 4 0 1\npipe 1 5 2\npipe 5 0 1\npipe 1 6 1\n");
        h.fill(0, 1, 5);
        check.due("12: not over tank 2, not backwards", open(h, 0, 1, 1), 5);
        check.due("12: into tank 2", open(h, 0, 2, 1), 0);
        close(h, 0, 2);
        h.fill(1, 1, 5);
        h.tick(1);
        check.due("12: over the pump", open(h, 1, 0, 1), 0);
        way(check, "over the pump", h, 0, 1, 0, 2, 2, 3);
    }

    private static void positions(Check check) {
        int[][] needs = {{0, 0, 1, 1}, {1, 0, 1, 0}, {1, 0, 2, 1}, {1, 1, 2, 3}, {1, 2, 1, 3}, {2, 0, 1, 1}, {2, 0, 2, 2}, {2, 2, 1, 3},
            {3, 0, 1, 0}, {4, 0, 1, 0}, {4, 3, 2, 0}, {4, 0, 2, 1}, {4, 3, 0, 1}, {4, 1, 2, 1}, {6, 1, 0, 1}, {7, 0, 1, 1}, {7, 1, 0, -1},
            {3, 1, 0, -1}};
        int[] ports = {2, 3, 3, 2, 4, 1, 2, 2};
        for (int[] need : needs) {
            String plant = Check.times("tank 9\n", 4) + "valve " + need[0] + "\n";
            for (int p = 0; p < ports[need[0]]; p++) {
                plant += "pipe " + p + " 4 1\n";
            }
            BreweryHouse h = house(plant);
            h.fill(need[1], 1, 9);
            String what = "kind " + need[0] + " from " + need[1] + " to " + need[2];
            check.due("12: POSITION, " + what, turn(h, 4, 9), 0);
            check.due("12: OPEN, " + what, open(h, need[1], need[2], 1), need[3] < 0 ? 5 : 0);
            check.due("27: position, " + what, h.space(4, 4), need[3] < 0 ? 9 : need[3]);
            close(h, need[1], need[2]);
            check.due("27: shut, " + what, h.space(4, 4), need[3] < 0 ? 9 : need[0] == 1 ? 2 : 0);
        }
    }

    private static void sharedValve(Check check) {
        String plant = Check.times("tank 9\n", 4) + "valve 4\npipe 0 4 1\npipe 1 4 1\npipe 2 4 1\npipe 3 4 1\n";
        BreweryHouse h = house(plant);
        h.fill(0, 1, 9);
        h.fill(2, 2, 9);
        check.due("12: 0 to 1", open(h, 0, 1, 1), 0);
        check.due("12: 2 to 1 needs another position, and a pipe of it", open(h, 2, 1, 1), 5);
        check.due("12: 2 to 3 in the same position", open(h, 2, 3, 1), 0);
        way(check, "second way", h, 1, 2, 3, 2, 2, 3);
        h.tick(2);
        check.due("27: two litres into the pipes", h.space(0, 1) + h.space(2, 1), 14);
        check.due("12: CLOSE the first", close(h, 0, 1), 0);
        way(check, "now the first", h, 0, 2, 3, 2, 2, 3);
        check.due("12: the other one still goes over it", turn(h, 4, 5), 3);
        check.due("12: all would meet", open(h, 0, 3, 1), 5);
        check.due("12: CLOSE the second", close(h, 2, 3), 0);
        check.due("12: not safe in 1", turn(h, 4, 1), 7);
        check.due("12: safe in 5", turn(h, 4, 5), 0);
        check.due("12: pipe 3 has the other liquid", open(h, 0, 3, 1), 6);
        check.due("27: position as before", h.space(4, 4), 5);
        check.due("26: no way", h.way(0, 0), -1);
        h = house(plant);
        h.fill(0, 1, 9);
        h.fill(3, 1, 5);
        check.due("12: 0 to 2", open(h, 0, 2, 1), 0);
        check.due("27: position 1", h.space(4, 4), 1);
        check.due("12: 3 to 1 in 1 too", open(h, 3, 1, 1), 0);
        close(h, 0, 2);
        check.due("27: not shut yet", h.space(4, 4), 1);
        check.due("12: 0 is taken for 3 to 1", open(h, 0, 2, 1), 0);
        way(check, "order of opening", h, 0, 3, 1, 2, 3, 1);
        check.due("12: CLOSE both", close(h, 3, 1) + close(h, 0, 2), 0);
        check.due("27: shut", h.space(4, 4), 0);
    }

    private static void moving(Check check) {
        BreweryHouse h = house(LINE);
        h.fill(0, 7, 9);
        open(h, 0, 1, 2);
        h.tick(1);
        check.due("14: into the first pipe", h.space(3, 1), 2);
        check.due("27: liquid of the pipe", h.space(3, 0), 7);
        check.due("27: not yet", h.space(4, 1) + h.space(1, 1), 0);
        h.tick(1);
        check.due("14: full, and one in the second", h.space(3, 1) * 10 + h.space(4, 1), 31);
        h.tick(1);
        check.due("14: one arrives", h.space(4, 1) * 10 + h.space(1, 1), 21);
        check.due("27: tank 0", h.space(0, 1), 3);
        h.tick(2);
        check.due("27: empty", h.space(0, 1) * 10 + h.space(0, 0), 0);
        check.due("27: last", h.space(0, 2), 7);
        check.due("27: tank 1", h.space(1, 1), 4);
        h.tick(5);
        check.due("27: no more", h.space(1, 1), 4);
        check.due("26: still open", h.way(0, 2), 2);
        h.need(7, 7, 0);
        h.fill(0, 7, 10);
        h.tick(1);
        h.fill(1, 7, 3);
        h.tick(1);
        check.due("14: does not fit any more", h.space(1, 1) * 100 + h.space(0, 1), 1007);
        h.tick(600);
        check.due("14: waits", h.space(1, 1) * 100 + h.space(0, 1), 1007);
        drain(h, 1);
        check.due("27: not drained", h.space(1, 1), 10);
    }

    private static void backAndForth(Check check) {
        // Litres and empty ones stay in their order; a way against the pipe's direction pushes them back.
        BreweryHouse h = house("tank 9\ntank 9\npipe 0 1 4\n");
        for (int l = 1; l < 3; l++) {
            h.need(l, l, 0);
        }
        h.fill(0, 1, 3);
        open(h, 0, 1, 2);
        h.tick(1);
        close(h, 0, 1);
        check.due("27: two in the pipe", h.space(2, 1), 2);
        drain(h, 0);
        h.fill(1, 1, 5);
        check.due("12: back", open(h, 1, 0, 1), 0);
        h.tick(1);
        check.due("14: one comes out, one comes in", h.space(0, 1) * 10 + h.space(2, 1), 12);
        h.tick(1);
        check.due("14: the other one", h.space(0, 1) * 10 + h.space(2, 1), 22);
        h.tick(1);
        check.due("14: an empty one", h.space(0, 1) * 10 + h.space(2, 1), 23);
        h.tick(1);
        check.due("14: another empty one", h.space(0, 1) * 10 + h.space(2, 1), 24);
        h.tick(1);
        check.due("14: a litre again", h.space(0, 1) * 10 + h.space(2, 1), 34);
        close(h, 1, 0);
        drain(h, 2);
        check.due("27: drained", h.space(2, 1) * 10 + h.space(2, 0), 0);
        check.due("27: last", h.space(2, 2), 1);
        check.due("12: forth", open(h, 0, 1, 3), 0);
        h.tick(1);
        check.due("14: three go into the empty pipe", h.space(2, 1) * 10 + h.space(1, 1), 30);
    }

    private static void cleanness(Check check) {
        BreweryHouse h = house(LINE);
        h.lasts(3, 10);
        h.lasts(2, 20);
        check.due("27: never used", h.space(0, 3) + h.space(0, 2), 0);
        check.due("12: CLEAN what was never used", clean(h, 0, 3), 0);
        check.due("27: 0, never used", h.space(0, 3), 0);
        h.fill(0, 1, 5);
        check.due("27: 0, has liquid", h.space(0, 3), 0);
        drain(h, 0);
        check.due("27: cleanings before do not count", h.space(0, 3), 0);
        check.due("27: last", h.space(0, 2), 1);
        clean(h, 0, 3);
        check.due("27: 3", h.space(0, 3), 3);
        h.need(1, 2, 3);
        h.need(1, 3, 4);
        h.need(1, 4, 1);
        check.due("4: needs 4", h.fill(0, 3, 1), false);
        h.tick(9);
        check.due("27: 3 still", h.space(0, 3), 3);
        check.due("4: needs 3", h.fill(0, 2, 1), true);
        drain(h, 0);
        check.due("27: forgotten", h.space(0, 3), 0);
        h.need(2, 2, 3);
        clean(h, 0, 3);
        h.tick(5);
        clean(h, 0, 2);
        h.tick(5);
        check.due("27: 3 lasted 10", h.space(0, 3), 2);
        check.due("4: not 3 any more", h.fill(0, 2, 1), false);
        h.tick(14);
        check.due("27: 2 lasts 20", h.space(0, 3), 2);
        h.tick(1);
        check.due("27: 1 lasts longer", h.space(0, 3), 1);
        // A greater level that lasts longer than the one that is needed is enough.
        h.lasts(5, 500);
        clean(h, 0, 5);
        h.tick(400);
        check.due("27: 5", h.space(0, 3), 5);
        check.due("4: 5 for 3", h.fill(0, 2, 1), true);
        drain(h, 0);
        h.need(2, 2, 5);
        check.due("4: by hand", h.fill(0, 2, 1), false);
        clean(h, 0, 5);
        check.due("12: DRAIN of an empty one", drain(h, 0), 0);
        check.due("27: stays clean", h.space(0, 3), 5);
        h.lasts(5, 0);
        h.lasts(4, 0);
        check.due("27: 5 and 4 last nothing", h.space(0, 3), 3);
        comingIn(check);
    }

    private static void comingIn(Check check) {
        BreweryHouse h = house(LINE);
        h.fill(0, 1, 5);
        open(h, 0, 1, 9);
        h.tick(1);
        close(h, 0, 1);
        check.due("27: tank, pipes", h.space(0, 1) * 100 + h.space(3, 1) * 10 + h.space(4, 1), 32);
        h.need(1, 1, 2);
        clean(h, 0, 2);
        check.due("4: clean", h.fill(0, 1, 6), true);
        h.fill(1, 1, 1);
        drain(h, 1);
        check.due("12: not into tank 1", open(h, 0, 1, 1), 6);
        clean(h, 1, 1);
        check.due("12: not with level 1", open(h, 0, 1, 1), 6);
        h.lasts(2, 3);
        clean(h, 1, 2);
        check.due("12: with level 2", open(h, 0, 1, 1), 0);
        h.lasts(2, 0);
        h.tick(1);
        check.due("14: it may not come any more", h.space(1, 1) * 10 + h.space(0, 1), 6);
        h.lasts(2, 3);
        h.tick(1);
        check.due("14: it may again", h.space(1, 1) * 10 + h.space(0, 1), 15);
        close(h, 0, 1);
        drain(h, 3);
        check.due("12: not into pipe 0", open(h, 0, 1, 1), 6);
        clean(h, 3, 2);
        h.tick(2);
        check.due("12: clean pipe", open(h, 0, 1, 1), 0);
        close(h, 0, 1);
        drain(h, 3);
        drain(h, 4);
        clean(h, 3, 5);
        clean(h, 4, 5);
        check.due("12: clean pipes", open(h, 0, 1, 1), 0);
    }

    private static void safety(Check check) {
        // Two valves between the liquids: one may fail.
        String two = "tank 9\ntank 9\nvalve 0\nvalve 0\npipe 0 2 1\npipe 2 3 1\npipe 3 1 1\n";
        BreweryHouse h = house(two);
        check.due("4: first", h.fill(0, 1, 5), true);
        check.due("4: second", h.fill(1, 2, 5), true);
        check.due("28: safe", h.danger(0), 0);
        check.due("28: nothing else", h.danger(1) + h.danger(2) + h.danger(3) + h.danger(4) + h.danger(-1), -5);
        check.due("12: POSITION, the other one may fail", turn(h, 2, 1), 7);
        check.due("27: stays", h.space(2, 4), 0);
        check.due("12: POSITION that passes nothing", turn(h, 2, 7), 0);
        check.due("5: they may meet", h.may(2, 1), true);
        check.due("12: POSITION", turn(h, 2, 1), 0);
        // One valve between them may not be there.
        h = house("tank 9\ntank 9\nvalve 0\npipe 0 2 1\npipe 2 1 1\n");
        h.fill(0, 1, 5);
        check.due("4: it may fail", h.fill(1, 2, 5), false);
        check.due("4: the same liquid", h.fill(1, 1, 5), true);
        // Valves and pumps that pass in one direction.
        h = house("tank 9\ntank 9\nvalve 3\npipe 0 2 1\npipe 2 1 1\n");
        check.due("4: tank 1", h.fill(1, 2, 5), true);
        check.due("4: it floods from 0 to 1", h.fill(0, 1, 5), false);
        h = house("tank 9\ntank 9\npump\nvalve 0\npipe 0 2 1\npipe 2 1 1\npipe 0 3 1\npipe 3 1 1\n");
        h.fill(1, 2, 5);
        check.due("4: over the pump", h.fill(0, 1, 5), false);
        h = house("tank 9\ntank 9\npump\npipe 2 0 1\npipe 1 2 1\ntank 9\npipe 0 3 1\n");
        h.fill(0, 2, 5);
        check.due("4: over the pump from its port 0 alone", h.fill(1, 1, 5), false);
        // An open way floods from its pipes and its second tank.
        h = house("tank 9\ntank 9\ntank 9\nvalve 0\nvalve 0\nvalve 0\npipe 0 3 1\npipe 3 1 1\npipe 1 4 1\npipe 4 5 1\npipe 5 2 1\n");
        h.fill(0, 1, 5);
        h.fill(2, 2, 5);
        check.due("12: POSITION, safe as tank 1 is empty", turn(h, 5, 1), 0);
        check.due("12: OPEN, tank 1 would be flooded", open(h, 0, 1, 1), 7);
        check.due("27: valve as before", h.space(3, 4), 0);
        turn(h, 5, 0);
        check.due("12: OPEN", open(h, 0, 1, 1), 0);
        check.due("12: POSITION, not safe as it is open", turn(h, 5, 1), 7);
        check.due("12: CLOSE", close(h, 0, 1), 0);
        check.due("12: POSITION, safe again", turn(h, 5, 1), 0);
    }

    private static void twoSeats(Check check) {
        String plant = Check.times("tank 9\n", 4) + "valve %\npipe 0 4 1\npipe 1 4 1\npipe 2 4 1\npipe 3 4 1\n";
        BreweryHouse h = house(plant.replace("%", "4"));
        h.fill(0, 1, 5);
        check.due("4: kind 4 never stands in 1 by itself", h.fill(2, 2, 5), true);
        check.due("4: but in 0", h.fill(3, 1, 5), false);
        check.due("12: POSITION", turn(h, 4, 8), 0);
        check.due("4: even when it is told 8", h.fill(3, 1, 5), false);
        check.due("12: POSITION 1", turn(h, 4, 1), 7);
        // Told to stand in 1 it may fail into 0.
        h = house(Check.times("tank 9\n", 4) + "valve 4\nvalve 0\npipe 0 4 1\npipe 1 4 1\npipe 2 4 1\npipe 3 5 1\npipe 5 4 1\n");
        h.fill(0, 1, 5);
        check.due("12: POSITION 1 with one liquid", turn(h, 4, 1), 0);
        check.due("4: valve 5 may fail", h.fill(3, 2, 5), false);
        h = house("tank 9\ntank 9\ntank 9\nvalve 1\nvalve 6\npipe 0 3 1\npipe 1 3 1\npipe 3 4 1\npipe 4 2 1\n");
        h.fill(2, 1, 5);
        check.due("4: kind 1 passes 0 - 1 at 0, and may stand otherwise", h.fill(0, 1, 5), true);
        check.due("4: another one in tank 1", h.fill(1, 2, 5), false);
    }

    private static void spaces(Check check) {
        BreweryHouse h = house("tank 9\npump\nvalve 2\npipe 0 1 5\n");
        for (int what = 0; what < 4; what++) {
            check.due("27: tank, pipe", h.space(0, what) + h.space(3, what), 0);
            check.due("27: pump, valve, none", h.space(1, what) + h.space(2, what) + h.space(4, what) + h.space(-1, what), -4);
        }
        check.due("27: position", h.space(2, 4), 0);
        check.due("27: no position", h.space(0, 4) + h.space(1, 4) + h.space(3, 4) + h.space(-1, 4) + h.space(9, 4), -5);
        check.due("27: what", h.space(0, 5) + h.space(0, -1) + h.space(2, 5), -3);
    }
}
