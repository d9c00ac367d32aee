/** Terms, SAFE, MEET, and promises 4, 5, 28: every boundary that they name of liquids that may not meet. */
public final class SafetyEdgesTest {
    public static void main(String[] args) {
        Check check = new Check();
        noValve(check);
        oneValve(check);
        twoValves(check);
        twoSeats(check);
        positionsOfFailures(check);
        portsWithoutPipes(check);
        floods(check);
        meetingInAPipe(check);
        pairsThatMayMeet(check);
        lastLiquids(check);
        largestPlant(check);
        valveWithNumber0(check);
        openWays(check);
        refusedOpening(check);
        safeNow(check);
        check.done();
    }

    /** Tanks 0 and 1 with different liquids: whether the second one may come. */
    private static boolean both(String plant) {
        BreweryHouse h = Hands.house(plant);
        return h.fill(0, 1, 5) && h.fill(1, 2, 5);
    }

    private static void noValve(Check check) {
        check.due("failure none: a pipe between them", both("tank 9\ntank 9\npipe 0 1 1\n"), false);
        check.due("failure none: a pipe between them, the other way round", both("tank 9\ntank 9\npipe 1 0 1\n"), false);
        check.due("nothing between them", both("tank 9\ntank 9\n"), true);
        check.due("pipes that end nowhere", both("tank 9\ntank 9\npipe 0 - 1\npipe - 1 1\n"), true);
        BreweryHouse h = Hands.house("tank 9\ntank 9\npipe 0 1 1\n");
        check.due("the same liquid does not meet another one", h.fill(0, 3, 5) && h.fill(1, 3, 5), true);
        check.due("over an empty tank", both("tank 9\ntank 9\ntank 9\npipe 0 2 1\npipe 2 1 1\n"), false);
        check.due("a pump passes always", both("tank 9\ntank 9\npump\npipe 0 2 1\npipe 2 1 1\n"), false);
        check.due("a pump passes always, from the other one", both("tank 9\ntank 9\npump\npipe 1 2 1\npipe 2 0 1\n"), false);
        check.due("two pumps against one another", both("tank 9\ntank 9\npump\npump\npipe 2 3 1\npipe 2 0 1\npipe 3 1 1\n"), true);
        check.due("two pumps, both into one pipe", both("tank 9\ntank 9\npump\npump\npipe 0 2 1\npipe 1 3 1\npipe 2 3 1\n"), false);
    }

    /** One valve that may stand in any position is no barrier, in whatever position it is told to stand. */
    private static void oneValve(Check check) {
        for (int kind = 0; kind < 8; kind++) {
            for (int p = 0; p < 10; p++) {
                BreweryHouse h = Hands.house(kind == 5 ? "tank 9\ntank 9\nvalve 5\npipe 0 2 1\n"
                        : "tank 9\ntank 9\nvalve " + kind + "\npipe 0 2 1\npipe 2 1 1\n");
                Hands.turn(h, 2, p);
                h.fill(0, 1, 5);
                check.due("one valve of kind " + kind + " at " + p, h.fill(1, 2, 5), kind == 5);
                check.due("a refused fill: nothing comes, kind " + kind + " at " + p, h.space(1, 1), kind == 5 ? 5 : 0);
            }
        }
    }

    private static void twoValves(Check check) {
        for (int kind : new int[] {0, 2, 6, 7}) {
            String plant = "tank 9\ntank 9\nvalve " + kind + "\nvalve " + kind + "\npipe 0 2 1\npipe 2 3 1\npipe 3 1 1\n";
            check.due("two valves of kind " + kind + ": one may fail, not both", both(plant), true);
            BreweryHouse h = Hands.house(plant);
            check.due("one of them stands open, kind " + kind, Hands.turn(h, 2, 1), 0);
            h.fill(0, 1, 5);
            check.due("then the other one alone is no barrier, kind " + kind, h.fill(1, 2, 5), false);
            Hands.turn(h, 2, 0);
            check.due("shut again, kind " + kind, h.fill(1, 2, 5), true);
            check.due("POSITION 1 of the first, kind " + kind, Hands.turn(h, 2, 1), 7);
            check.due("POSITION 1 of the second, kind " + kind, Hands.turn(h, 3, 1), 7);
            check.due("they stay, kind " + kind, h.space(2, 4) + h.space(3, 4), 0);
        }
        // Kind 1 passes 0 - 1 at 0, and nothing at 2: two of them are barriers when both are shut.
        String plant = "tank 9\ntank 9\nvalve 1\nvalve 1\npipe 0 2 1\npipe 2 3 1\npipe 3 1 1\n";
        check.due("kind 1 at first", both(plant), false);
        BreweryHouse h = Hands.house(plant);
        Hands.turn(h, 2, 2);
        h.fill(0, 1, 5);
        check.due("one of kind 1 is shut", h.fill(1, 2, 5), false);
        Hands.turn(h, 3, 2);
        check.due("both of kind 1 are shut", h.fill(1, 2, 5), true);
        check.due("POSITION 0", Hands.turn(h, 2, 0), 7);
        check.due("POSITION 1, over a port without a pipe", Hands.turn(h, 2, 1), 0);
        // Kind 3 passes always from 0 to 1: no barrier in that direction, one in the other.
        check.due("kind 3 twice", both("tank 9\ntank 9\nvalve 3\nvalve 3\npipe 0 2 1\npipe 2 3 1\npipe 3 1 1\n"), false);
        check.due("kind 3 against one another", both("tank 9\ntank 9\nvalve 3\nvalve 3\npipe 2 3 1\npipe 2 0 1\npipe 3 1 1\n"), true);
    }

    private static void twoSeats(Check check) {
        // Ports of valve 4 in the order of the pipes: tanks 0 to 3.
        String plant = Check.times("tank 9\n", 4) + "valve 4\npipe 0 4 1\npipe 1 4 1\npipe 2 4 1\npipe 3 4 1\n";
        boolean[][] safe = {{true, false, true, true}, {false, true, true, true}, {true, true, true, false}, {true, true, false, true}};
        for (int a = 0; a < 4; a++) {
            for (int b = 0; b < 4; b++) {
                for (int p = 0; a != b && p < 10; p++) {
                    BreweryHouse h = Hands.house(plant);
                    Hands.turn(h, 4, p);
                    h.fill(a, 1, 5);
                    check.due("two seats at " + p + ", tanks " + a + ", " + b, h.fill(b, 2, 5), safe[a][b] && p != 1);
                }
            }
        }
        // Told to stand in 1 it may fail into 0, which lets less through.
        BreweryHouse h = Hands.house(plant);
        Hands.turn(h, 4, 1);
        h.fill(0, 1, 5);
        check.due("two seats, the same liquid", h.fill(3, 1, 5), true);
        check.due("two seats, told 1", h.fill(2, 2, 5), false);
        check.due("two seats, POSITION 9", Hands.turn(h, 4, 9), 0);
        check.due("two seats, told 9: may fail into 0, 2 - 3", h.fill(2, 2, 5), false);
        Hands.drain(h, 3);
        check.due("two seats, told 9: safe", h.fill(2, 2, 5), true);
        check.due("two seats, POSITION 1", Hands.turn(h, 4, 1), 7);
    }

    /** A failure may be any position: valve 2 joins the two barriers' sides in one of them alone. */
    private static void positionsOfFailures(Check check) {
        // Kind 2: tanks at two of three ports, the third port leads nowhere.
        for (int kind = 1; kind < 3; kind++) {
            for (int a = 0; a < 3; a++) {
                for (int b = 0; b < 3; b++) {
                    StringBuilder plant = new StringBuilder("tank 9\ntank 9\nvalve " + kind + "\n");
                    for (int port = 0; port < 3; port++) {
                        plant.append(port == a ? "pipe 0 2 1\n" : port == b ? "pipe 1 2 1\n" : "pipe - 2 1\n");
                    }
                    BreweryHouse h = Hands.house(plant.toString());
                    Hands.turn(h, 2, 9);
                    if (a != b) {
                        h.fill(0, 1, 5);
                        check.due("kind " + kind + ", ports " + a + ", " + b + ": one position joins them", h.fill(1, 2, 5), false);
                    }
                }
            }
        }
    }

    private static void portsWithoutPipes(Check check) {
        for (int kind = 0; kind < 8; kind++) {
            check.due("one pipe at a valve of kind " + kind, both("tank 9\ntank 9\nvalve " + kind + "\npipe 0 2 1\npipe 1 - 1\n"), true);
        }
        check.due("one pipe at a pump", both("tank 9\ntank 9\npump\npipe 0 2 1\npipe 1 - 1\n"), true);
        check.due("a pipe with both ends at a valve", both("tank 9\ntank 9\nvalve 2\npipe 2 2 1\npipe 0 2 1\npipe 1 - 1\n"), true);
    }

    private static void floods(Check check) {
        // Over what stands open, however far: five valves of kind 6 told 1, and one that may fail.
        String chain = "tank 9\ntank 9\n" + Check.times("valve 6\n", 6)
                + "pipe 0 2 1\npipe 2 3 1\npipe 3 4 1\npipe 4 5 1\npipe 5 6 1\npipe 6 7 1\npipe 7 1 1\n";
        BreweryHouse h = Hands.house(chain);
        h.fill(0, 1, 5);
        h.fill(1, 2, 5);
        for (int v = 2; v < 6; v++) {
            check.due("POSITION of valve " + v + ": two are shut", Hands.turn(h, v, 1 + v), 0);
        }
        check.due("POSITION of valve 6: one would be shut", Hands.turn(h, 6, 9), 7);
        check.due("POSITION of valve 7", Hands.turn(h, 7, 9), 7);
        check.due("POSITION back", Hands.turn(h, 2, 0), 0);
        check.due("POSITION of valve 6 then", Hands.turn(h, 6, 9), 0);
        // In the direction in which it passes, not against it.
        check.due("kind 7, from 1 to 0, and a pipe", both("tank 9\ntank 9\nvalve 7\nvalve 0\npipe 1 2 1\npipe 2 3 1\npipe 3 0 1\n"), true);
        h = Hands.house("tank 9\ntank 9\nvalve 7\nvalve 0\npump\npipe 2 3 1\npipe 0 2 1\npipe 3 4 1\npipe 4 1 1\n");
        Hands.turn(h, 2, 1);
        h.fill(0, 1, 5);
        check.due("against kind 7 nothing floods", h.fill(1, 2, 5), true);
        // A pipe with liquid floods, too.
        h = Hands.house("tank 9\ntank 9\ntank 9\npipe 0 1 2\nvalve 0\npipe 1 3 1\npipe 3 2 1\n");
        h.need(1, 2, 0);
        h.fill(0, 1, 1);
        Hands.open(h, 0, 1, 1);
        h.tick(1);
        Hands.close(h, 0, 1);
        check.due("tank 0 is empty, the pipe is not", h.space(0, 1) * 10 + h.space(4, 1), 1);
        check.due("its liquid floods tank 1, and on", h.fill(2, 2, 5), false);
        check.due("and tank 0", h.fill(0, 2, 1), false);
        Hands.drain(h, 4);
        check.due("drained, it does not", h.fill(2, 2, 5), true);
    }

    private static void meetingInAPipe(Check check) {
        // Both flood the pipe between two valves that let nothing back.
        check.due("in one pipe alone", both("tank 9\ntank 9\nvalve 3\nvalve 3\npipe 0 2 1\npipe 1 3 1\npipe 2 3 1\n"), false);
        check.due("in one pipe, with a failure", both("tank 9\ntank 9\nvalve 3\nvalve 7\npipe 0 2 1\npipe 1 3 1\npipe 2 3 1\n"), false);
        check.due("in one pipe, with two failures", both("tank 9\ntank 9\nvalve 7\nvalve 7\npipe 0 2 1\npipe 1 3 1\npipe 2 3 1\n"), true);
        check.due("in one tank that has none", both("tank 9\ntank 9\ntank 9\nvalve 3\nvalve 3\npipe 0 3 1\npipe 3 2 1\npipe 1 4 1\npipe 4 2 1\n"), false);
    }

    private static void pairsThatMayMeet(Check check) {
        String plant = "tank 9\ntank 9\ntank 9\npipe 0 1 1\npipe 1 2 1\n";
        BreweryHouse h = Hands.house(plant);
        h.may(1, 2);
        h.may(3, 2);
        check.due("1 and 2 may meet", h.fill(0, 1, 5) && h.fill(1, 2, 5), true);
        check.due("3 and 2 may, 3 and 1 may not", h.fill(2, 3, 5), false);
        check.due("1 and 3 may", h.may(3, 1), true);
        check.due("now all may", h.fill(2, 3, 5), true);
        check.due("safe", h.danger(0), 0);
        check.due("no space", h.danger(1), -1);
    }

    private static void lastLiquids(Check check) {
        int[][] pairs = {{13, 14}, {14, 13}, {1, 14}, {14, 1}, {1, 2}};
        for (int[] p : pairs) {
            BreweryHouse h = Hands.house("tank 9\ntank 9\npipe 0 1 1\n");
            h.fill(0, p[0], 5);
            check.due("liquids " + p[0] + " and " + p[1], h.fill(1, p[1], 5), false);
            check.due("may, " + p[0] + " and " + p[1], h.may(p[1], p[0]), true);
            check.due("liquids that may meet, " + p[0] + " and " + p[1], h.fill(1, p[1], 5), true);
            // In one direction alone.
            for (int from = 0; from < 2; from++) {
                h = Hands.house("tank 9\ntank 9\nvalve 3\npipe " + from + " 2 1\npipe 2 " + (1 - from) + " 1\n");
                h.fill(0, p[0], 5);
                check.due("liquids " + p[0] + " and " + p[1] + ", from tank " + from, h.fill(1, p[1], 5), false);
            }
        }
    }

    /** 20 things and 24 pipes: what is not joined does not meet, and the last ones do. */
    private static void largestPlant(Check check) {
        BreweryHouse h = Hands.house(Check.times("tank 9\n", 20) + "pipe 2 3 1\n" + Check.times("pipe - - 1\n", 22) + "pipe 18 19 1\n");
        for (int t = 0; t < 18; t++) {
            int liquid = t == 3 ? 3 : 1 + t % 14;
            check.due("tank " + t + " of the largest plant", h.fill(t, liquid, 5), true);
        }
        check.due("the last tank", h.fill(19, 14, 5), true);
        check.due("another liquid at the last pipe", h.fill(18, 13, 5), false);
        check.due("the same liquid at the last pipe", h.fill(18, 14, 5), true);
        check.due("another liquid at the first pipe", h.fill(2, 4, 1), false);
        check.due("safe", h.danger(0), 0);
        // Nineteen of them in a row, with a valve that may fail: it floods from one end to the other.
        StringBuilder plant = new StringBuilder(Check.times("tank 9\n", 19) + "valve 0\n");
        for (int p = 0; p < 18; p++) {
            plant.append(p == 9 ? "pipe 9 19 1\npipe 19 10 1\n" : "pipe " + p + " " + (p + 1) + " 1\n");
        }
        h = Hands.house(plant + Check.times("pipe 18 - 1\n", 5));
        check.due("one end of the row", h.fill(0, 1, 5), true);
        check.due("the other end of the row", h.fill(18, 2, 5), false);
        check.due("the other end of the row, the same liquid", h.fill(18, 1, 5), true);
    }

    private static void valveWithNumber0(Check check) {
        for (String thing : new String[] {"valve 0\n", "valve 3\n", "valve 6\n", "valve 7\n", "pump\n"}) {
            BreweryHouse h = Hands.house(thing + "tank 9\ntank 9\npipe 1 0 1\npipe 0 2 1\n");
            h.fill(1, 1, 5);
            check.due("thing 0 is between them, " + thing.trim(), h.fill(2, 2, 5), false);
        }
        // Kinds 1 and 4 pass from port 0 to port 1 when they fail into position 0.
        for (int kind : new int[] {1, 4}) {
            BreweryHouse h = Hands.house("valve " + kind + "\ntank 9\ntank 9\npipe 1 0 1\npipe 0 2 1\n");
            check.due("POSITION of thing 0, kind " + kind, Hands.turn(h, 0, 2), 0);
            h.fill(1, 1, 5);
            check.due("thing 0 may fail into 0, kind " + kind, h.fill(2, 2, 5), false);
        }
        BreweryHouse h = Hands.house("valve 0\nvalve 0\ntank 9\ntank 9\npipe 2 0 1\npipe 0 1 1\npipe 1 3 1\n");
        h.fill(2, 1, 5);
        check.due("valves 0 and 1 are between them", h.fill(3, 2, 5), true);
        check.due("POSITION of valve 0", Hands.turn(h, 0, 1), 7);
        check.due("POSITION of valve 1", Hands.turn(h, 1, 1), 7);
    }

    private static void openWays(Check check) {
        // The liquid of an open way floods from its pipes and its second tank, before a litre has come there.
        String plant = "tank 9\ntank 9\ntank 9\nvalve 0\nvalve 0\npipe 0 3 1\npipe 3 1 1\npipe 1 4 1\npipe 4 2 1\n";
        BreweryHouse h = Hands.house(plant);
        h.fill(0, 1, 5);
        check.due("tank 1 is empty: tank 2 is far", h.fill(2, 2, 1), true);
        check.due("OPEN: tank 1 would be flooded, and valve 4 may fail", Hands.open(h, 0, 1, 1), 7);
        Hands.drain(h, 2);
        check.due("OPEN", Hands.open(h, 0, 1, 1), 0);
        h.need(2, 2, 0);
        check.due("fill while it is open", h.fill(2, 2, 1), false);
        check.due("its liquid may come", h.fill(2, 1, 1), false);
        h.need(2, 1, 0);
        check.due("its liquid may come, and it needs nothing", h.fill(2, 1, 1), true);
        // It floods them when its first tank has run empty, too, and not behind its CLOSE.
        h = Hands.house(plant);
        h.need(1, 1, 0);
        h.fill(0, 1, 1);
        Hands.open(h, 0, 1, 9);
        h.tick(2);
        check.due("a litre is in pipe 0", h.space(5, 1) * 10 + h.space(0, 1), 10);
        check.due("tank 1 has none", h.space(1, 1), 0);
        check.due("fill of tank 2 while it is open", h.fill(2, 2, 1), false);
        Hands.close(h, 0, 1);
        check.due("fill of tank 2 behind CLOSE", h.fill(2, 2, 1), true);
    }

    private static void refusedOpening(Check check) {
        BreweryHouse h = Hands.house("tank 9\ntank 9\ntank 9\nvalve 1\nvalve 0\npipe 0 3 1\npipe 3 1 1\npipe 1 4 1\npipe 4 2 1\n");
        h.fill(0, 1, 5);
        Hands.turn(h, 3, 7);
        h.fill(2, 2, 1);
        check.due("OPEN is not safe", Hands.open(h, 0, 1, 1), 7);
        check.due("the valve stays", h.space(3, 4), 7);
        check.due("no way is open", h.way(0, 0), -1);
        check.due("its pipes are free", Hands.clean(h, 5, 1), 0);
        check.due("its valve, too", Hands.turn(h, 3, 8), 0);
        h.tick(1);
        check.due("nothing moves", h.space(0, 1), 5);
    }

    private static void safeNow(Check check) {
        BreweryHouse h = new BreweryHouse();
        for (int what = -2; what < 6; what++) {
            check.due("danger(" + what + ") without a plant", h.danger(what), what == 0 ? 0 : -1);
        }
        Check.read(h, 0, "tank 9\ntank 9\nvalve 0\nvalve 0\npipe 0 2 1\npipe 2 3 1\npipe 3 1 1\n");
        h.fill(0, 1, 9);
        h.fill(1, 14, 9);
        for (int what = -2; what < 6; what++) {
            check.due("danger(" + what + ") of a safe house", h.danger(what), what == 0 ? 0 : -1);
        }
        check.due("far", h.danger(Integer.MAX_VALUE) + h.danger(Integer.MIN_VALUE), -2);
    }
}
