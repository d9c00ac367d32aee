/** Terms, WAY, THE WAY, OPEN: every boundary that they name. */
public final class WayEdgesTest {
    public static void main(String[] args) {
        Check check = new Check();
        litresBeforePipes(check);
        pipesOfEqualLitres(check);
        lesserNumbers(check);
        longestWay(check);
        lastThingsAndPipes(check);
        thingsAndPipesWithNumber0(check);
        manyWays(check);
        noTankBetween(check);
        directions(check);
        whileOpen(check);
        sharedValve(check);
        onlyTheWay(check);
        carriedLiquid(check);
        closing(check);
        lookingAtWays(check);
        check.done();
    }

    private static void way(Check check, String what, BreweryHouse h, int k, int... due) {
        for (int i = 0; i < due.length; i++) {
            check.due(what + ", way(" + k + ", " + i + ")", h.way(k, i), due[i]);
        }
        check.due(what + ", behind its pipes", h.way(k, due.length), -1);
    }

    /** Two tanks, 18 valves between them in 19 pipes of a litre, and one pipe from tank to tank. */
    private static String chain(int litres, int direct, boolean first) {
        StringBuilder plant = new StringBuilder("tank 900\ntank 900\n" + Check.times("valve 6\n", 18));
        if (first) {
            plant.append("pipe 0 1 ").append(direct).append("\n");
        }
        for (int p = 0; p < 19; p++) {
            plant.append("pipe ").append(p == 0 ? 0 : p + 1).append(" ").append(p == 18 ? 1 : p + 2).append(" ").append(litres).append("\n");
        }
        if (!first) {
            plant.append("pipe 0 1 ").append(direct).append("\n");
        }
        return plant.toString();
    }

    private static int pipesOfWay(BreweryHouse h) {
        h.fill(0, 1, 5);
        return Hands.open(h, 0, 1, 1) == 0 ? h.way(0, 2) : -9;
    }

    private static void litresBeforePipes(Check check) {
        check.due("fewest litres: 19 in 19 pipes, not 20 in one", pipesOfWay(Hands.house(chain(1, 20, true))), 19);
        check.due("fewest litres: 18 in one pipe", pipesOfWay(Hands.house(chain(1, 18, false))), 1);
        check.due("fewest litres: 190 in 19 pipes, not 191 in one", pipesOfWay(Hands.house(chain(10, 191, true))), 19);
        check.due("fewest litres: 189 in one", pipesOfWay(Hands.house(chain(10, 189, false))), 1);
    }

    private static void pipesOfEqualLitres(Check check) {
        check.due("equal litres, fewest pipes: one before 19", pipesOfWay(Hands.house(chain(1, 19, true))), 1);
        check.due("equal litres, fewest pipes: one behind 19", pipesOfWay(Hands.house(chain(1, 19, false))), 1);
        // Two pipes of 4 litres in all, and three.
        BreweryHouse h = Hands.house("tank 9\ntank 9\nvalve 0\nvalve 0\nvalve 0\npipe 0 3 1\npipe 3 4 1\npipe 4 1 2\npipe 0 2 2\npipe 2 1 2\n");
        h.fill(0, 1, 5);
        check.due("fewest pipes: OPEN", Hands.open(h, 0, 1, 1), 0);
        way(check, "fewest pipes", h, 0, 0, 1, 2, 3, 4);
    }

    private static void lesserNumbers(Check check) {
        // Side by side: pipes 0 and 1, of equal litres.
        BreweryHouse h = Hands.house("tank 9\ntank 9\npipe 0 1 3\npipe 1 0 3\n");
        h.fill(0, 1, 5);
        Hands.open(h, 0, 1, 1);
        way(check, "lesser number", h, 0, 0, 1, 1, 0);
        h.fill(1, 1, 4);
        check.due("lesser number: OPEN back", Hands.open(h, 1, 0, 1), 0);
        way(check, "the other one", h, 1, 1, 0, 1, 1);
        // They differ first in the first pipe: 1, 5 comes before 2, 0, whatever is behind it.
        h = Hands.house("tank 9\ntank 9\nvalve 0\nvalve 0\npipe 3 1 1\npipe 0 2 1\npipe 0 3 1\npipe - - 1\npipe - - 1\npipe 2 1 1\n");
        h.fill(0, 1, 5);
        Hands.open(h, 0, 1, 1);
        way(check, "the first that differs", h, 0, 0, 1, 2, 1, 5);
        // They differ first in the second pipe, behind a valve: 2 before 3, though 4 is behind it, and 1 behind the other.
        h = Hands.house("tank 9\ntank 9\nvalve 2\nvalve 0\nvalve 0\npipe 0 2 1\npipe 3 1 1\npipe 2 4 1\npipe 2 3 1\npipe 4 1 1\n");
        h.fill(0, 1, 5);
        Hands.open(h, 0, 1, 1);
        way(check, "the second that differs", h, 0, 0, 1, 3, 0, 2, 4);
        check.due("POSITION that it needs", h.space(2, 4), 1);
    }

    private static void longestWay(Check check) {
        BreweryHouse h = Hands.house(chain(200, 1, true).replace("pipe 0 1 1\n", "pipe - - 1\n"));
        h.fill(0, 1, 900);
        check.due("19 pipes of 200 litres: OPEN", Hands.open(h, 0, 1, 100), 0);
        check.due("its last pipe", h.way(0, 21), 19);
        check.due("behind it", h.way(0, 22), -1);
        h.tick(10);
        check.due("empty behind 9 seconds", h.space(0, 1), 0);
        int litres = 0;
        for (int p = 0; p < 20; p++) {
            litres += h.space(20 + p, 1);
        }
        check.due("all litres are in its pipes", litres, 900);
        check.due("the first pipes are full", h.space(21, 1) + h.space(24, 1), 400);
        check.due("the fifth has 100", h.space(25, 1), 100);
        check.due("the sixth has none", h.space(26, 1), 0);
    }

    /** Twenty things and 24 pipes: the last of them count as the first. */
    private static void lastThingsAndPipes(Check check) {
        StringBuilder plant = new StringBuilder(Check.times("tank 5\n", 17) + "tank 7\ntank 8\nvalve 0\n");
        plant.append(Check.times("pipe - - 1\n", 22)).append("pipe 17 19 3\npipe 19 18 2\n");
        BreweryHouse h = Hands.house(plant.toString());
        check.due("tank 18, fill", h.fill(18, 14, 8), true);
        check.due("OPEN from 18 to 17", Hands.open(h, 18, 17, 100), 0);
        way(check, "the last pipes", h, 0, 18, 17, 2, 23, 22);
        h.tick(1);
        check.due("the last pipes are full", h.space(43, 1) * 10 + h.space(42, 1), 23);
        check.due("litres arrive", h.space(17, 1), 3);
        check.due("CLEAN on the way, the last pipe", Hands.clean(h, 43, 1), 3);
        check.due("POSITION, the last thing", Hands.turn(h, 19, 5), 3);
        check.due("no space 44", h.space(44, 0), -1);
        check.due("CLOSE", Hands.close(h, 18, 17), 0);
        check.due("DRAIN the last pipe", Hands.drain(h, 43), 0);
        check.due("it is empty", h.space(43, 1), 0);
        check.due("the other one is not", h.space(42, 1), 3);
        check.due("CLEAN the last pipe", Hands.clean(h, 43, 4), 0);
        check.due("it holds 4", h.space(43, 3), 4);
        check.due("DRAIN 44", Hands.drain(h, 44), 1);
    }

    private static void thingsAndPipesWithNumber0(Check check) {
        for (String thing : new String[] {"valve 0\n", "valve 6\n", "pump\n"}) {
            // Thing 0 is on the way, and pipe 0 is its last one, or its first one.
            for (String pipes : new String[] {"pipe 1 0 1\npipe 0 2 1\n", "pipe 0 2 1\npipe 1 0 1\n", "pipe 2 0 1\npipe 0 1 1\n"}) {
                BreweryHouse h = Hands.house(thing + "tank 9\ntank 9\n" + pipes);
                boolean forth = pipes.startsWith("pipe 1") || !thing.equals("pump\n");
                h.fill(1, 1, 5);
                check.due("OPEN over thing 0, " + (thing + pipes).replace("\n", ";"), Hands.open(h, 1, 2, 1), forth ? 0 : 5);
                check.due("two pipes", h.way(0, 2), forth ? 2 : -1);
            }
        }
        BreweryHouse h = Hands.house("tank 9\ntank 9\nvalve 0\nvalve 0\npipe 2 3 1\npipe 0 2 1\npipe 3 1 1\n");
        h.fill(0, 1, 5);
        check.due("pipe 0 is between others", Hands.open(h, 0, 1, 1), 0);
        way(check, "pipe 0 is between others", h, 0, 0, 1, 3, 1, 0, 2);
    }

    /** As many ways as there are pipes: from each tank to the next one and back, and on. */
    private static void manyWays(Check check) {
        StringBuilder plant = new StringBuilder(Check.times("tank 9\n", 20));
        for (int p = 0; p < 24; p++) {
            plant.append("pipe ").append(p % 20).append(" ").append((p + 1 + p / 20) % 20).append(" 1\n");
        }
        BreweryHouse h = Hands.house(plant.toString());
        for (int t = 0; t < 20; t++) {
            check.due("fill " + t, h.fill(t, 1, 5), true);
        }
        for (int p = 0; p < 24; p++) {
            check.due("OPEN over pipe " + p, Hands.open(h, p % 20, (p + 1 + p / 20) % 20, 1), 0);
            check.due("it is way " + p, h.way(p, 3), p);
        }
        check.due("no way 24", h.way(24, 0), -1);
        check.due("no pipe is left", Hands.open(h, 1, 0, 1), 5);
        h.tick(1);
        int litres = 0;
        for (int p = 0; p < 24; p++) {
            litres += h.space(20 + p, 1);
        }
        check.due("a litre in each pipe", litres, 24);
        check.due("CLOSE the first", Hands.close(h, 0, 1), 0);
        for (int k = 0; k < 23; k++) {
            check.due("way " + k + " behind CLOSE", h.way(k, 3), k + 1);
        }
        check.due("no way 23", h.way(23, 0), -1);
        check.due("OPEN it again", Hands.open(h, 0, 1, 1), 0);
        check.due("it is the last", h.way(23, 3), 0);
        check.due("CLOSE the last", Hands.close(h, 0, 1), 0);
        check.due("no way 23 again", h.way(23, 0), -1);
    }

    private static void noTankBetween(Check check) {
        BreweryHouse h = Hands.house("tank 9\ntank 9\ntank 9\npipe 0 2 1\npipe 2 1 1\n");
        h.fill(0, 1, 5);
        check.due("no way over a tank", Hands.open(h, 0, 1, 1), 5);
        check.due("a way to that tank", Hands.open(h, 0, 2, 1), 0);
        h = Hands.house("tank 9\ntank 9\npipe 0 - 1\npipe - 1 1\npipe 0 0 1\npipe 1 1 1\n");
        h.fill(0, 1, 5);
        check.due("no way over an end that is none", Hands.open(h, 0, 1, 1), 5);
        h = Hands.house("tank 9\ntank 9\n");
        h.fill(0, 1, 5);
        check.due("no way without pipes", Hands.open(h, 0, 1, 1), 5);
    }

    private static void directions(Check check) {
        String[] things = {"pump\n", "valve 3\n", "valve 7\n"};
        for (String thing : things) {
            for (int a = 0; a < 2; a++) {
                BreweryHouse h = Hands.house("tank 9\ntank 9\n" + thing + "pipe 0 2 1\npipe 2 1 1\n");
                h.fill(a, 1, 5);
                check.due("from 0 to 1 alone, " + thing.trim() + ", from " + a, Hands.open(h, a, 1 - a, 1), a == 0 ? 0 : 5);
            }
        }
    }

    private static void whileOpen(Check check) {
        BreweryHouse h = Hands.house("tank 9\ntank 9\ntank 9\nvalve 2\npump\npipe 0 3 1\npipe 3 4 1\npipe 4 1 1\npipe 2 3 1\n");
        h.fill(0, 1, 5);
        h.fill(2, 1, 5);
        check.due("OPEN over pump 4", Hands.open(h, 0, 1, 1), 0);
        check.due("no other way goes over it", Hands.open(h, 2, 1, 1), 5);
        check.due("nor over a pipe of it", Hands.open(h, 2, 0, 1), 5);
        check.due("CLOSE", Hands.close(h, 0, 1), 0);
        check.due("now it does", Hands.open(h, 2, 1, 1), 0);
        way(check, "the other one", h, 0, 2, 1, 3, 3, 1, 2);
        check.due("in the position that it needs", h.space(3, 4), 3);
        // The next best one, where a pipe is taken.
        h = Hands.house("tank 9\ntank 9\npipe 0 1 3\npipe 0 1 4\npipe 0 1 5\n");
        h.fill(0, 1, 5);
        h.fill(1, 1, 5);
        Hands.open(h, 0, 1, 1);
        check.due("another way", Hands.open(h, 1, 0, 1), 0);
        way(check, "the next best one", h, 1, 1, 0, 1, 1);
        check.due("CLOSE the first", Hands.close(h, 0, 1), 0);
        check.due("OPEN it again", Hands.open(h, 0, 1, 1), 0);
        way(check, "behind the other one now", h, 1, 0, 1, 1, 0);
    }

    private static void sharedValve(Check check) {
        String plant = Check.times("tank 9\n", 4) + "valve 4\npipe 0 4 1\npipe 1 4 1\npipe 2 4 1\npipe 3 4 1\n";
        int[][] pairs = {{0, 1, 2, 3, 0}, {1, 0, 3, 2, 0}, {0, 2, 1, 3, 1}, {3, 0, 2, 1, 1}};
        for (int[] p : pairs) {
            BreweryHouse h = Hands.house(plant);
            h.fill(p[0], 1, 5);
            h.fill(p[2], 1, 5);
            String what = p[0] + " to " + p[1] + ", " + p[2] + " to " + p[3];
            check.due("both over valve 4, " + what, Hands.open(h, p[0], p[1], 1) + Hands.open(h, p[2], p[3], 1), 0);
            check.due("as they need it, " + what, h.space(4, 4), p[4]);
            check.due("POSITION, " + what, Hands.turn(h, 4, p[4]), 3);
            check.due("CLOSE one, " + what, Hands.close(h, p[0], p[1]), 0);
            check.due("the other one goes over it, " + what, h.space(4, 4), p[4]);
            check.due("POSITION still, " + what, Hands.turn(h, 4, p[4]), 3);
            check.due("CLOSE both, " + what, Hands.close(h, p[2], p[3]), 0);
            check.due("shut, " + what, h.space(4, 4), 0);
            check.due("POSITION now, " + what, Hands.turn(h, 4, 7), 0);
        }
    }

    /** What is refused of the way is refused, though a longer one would do. */
    private static void onlyTheWay(Check check) {
        BreweryHouse h = Hands.house("tank 9\ntank 9\npipe 0 1 1\npipe 0 1 2\n");
        h.fill(0, 1, 9);
        Hands.open(h, 0, 1, 1);
        h.tick(1);
        Hands.close(h, 0, 1);
        Hands.drain(h, 2);
        check.due("pipe 0 is not clean", Hands.open(h, 0, 1, 1), 6);
        Hands.clean(h, 2, 5);
        check.due("now it is", Hands.open(h, 0, 1, 1), 0);
        // A longer way that was looked for before does not count: pipe 1 of it is not clean.
        h = Hands.house("tank 9\ntank 9\nvalve 0\nvalve 0\ntank 9\ntank 9\npipe 0 2 1\npipe 2 3 1\npipe 3 1 1\npipe 4 5 1\n");
        h.fill(0, 1, 9);
        h.fill(4, 1, 9);
        Hands.open(h, 0, 1, 3);
        h.tick(1);
        Hands.close(h, 0, 1);
        Hands.drain(h, 7);
        check.due("another way is clean", Hands.open(h, 4, 5, 1), 0);
        check.due("that one is not", Hands.open(h, 0, 1, 1), 6);
        // Liquid 2 is at valve 4, which may fail: not safe over it, but safe over the pipe from tank to tank.
        String plant = "tank 9\ntank 9\ntank 9\nvalve 0\nvalve 2\nvalve 0\nvalve 0\npipe 0 3 1\npipe 3 4 1\npipe 4 6 1\npipe 6 1 1\n"
                + "pipe 4 5 1\npipe 5 2 1\npipe 0 1 50\n";
        for (int i = 0; i < 2; i++) {
            h = Hands.house(i == 0 ? plant : plant.replace("pipe 0 3 1", "pipe - 3 1"));
            Hands.turn(h, 5, 1);
            check.due("two liquids", h.fill(0, 1, 5) && h.fill(2, 2, 5), true);
            check.due(i == 0 ? "the way is not safe" : "the longer one is", Hands.open(h, 0, 1, 1), i == 0 ? 7 : 0);
        }
    }

    private static void carriedLiquid(Check check) {
        BreweryHouse h = Hands.house("tank 9\ntank 9\npipe 0 1 2\n");
        h.may(1, 2);
        h.need(1, 2, 0);
        h.fill(0, 1, 1);
        check.due("OPEN with liquid 1", Hands.open(h, 0, 1, 1), 0);
        h.tick(1);
        check.due("the first tank is empty", h.space(0, 0), 0);
        check.due("another one comes", h.fill(0, 2, 5), true);
        h.tick(5);
        check.due("the way carries the liquid that the tank had as it was opened", h.space(0, 1), 5);
        check.due("it is still in the pipe", h.space(2, 1) * 10 + h.space(2, 0), 11);
        Hands.close(h, 0, 1);
        check.due("OPEN with liquid 2", Hands.open(h, 0, 1, 1), 6);
    }

    private static void closing(Check check) {
        BreweryHouse h = Hands.house("tank 9\ntank 9\nvalve 1\nvalve 6\npipe 0 2 1\npipe 2 3 1\npipe 3 1 1\n");
        h.fill(0, 1, 9);
        check.due("CLOSE what is not open", Hands.close(h, 0, 1), 3);
        check.due("valves stay", h.space(2, 4) * 10 + h.space(3, 4), 0);
        Hands.open(h, 0, 1, 1);
        check.due("valves that it needs", h.space(2, 4) * 10 + h.space(3, 4), 1);
        check.due("CLOSE the other way round", Hands.close(h, 1, 0), 3);
        check.due("CLOSE", Hands.close(h, 0, 1), 0);
        check.due("shut", h.space(2, 4) * 10 + h.space(3, 4), 20);
        check.due("CLOSE again", Hands.close(h, 0, 1), 3);
    }

    private static void lookingAtWays(Check check) {
        BreweryHouse h = Hands.house("tank 9\ntank 9\ntank 9\ntank 9\npipe 0 1 1\npipe 2 3 1\npipe 3 2 1\n");
        for (int k = -1; k < 2; k++) {
            check.due("no way is open, " + k, h.way(k, 0), -1);
        }
        h.fill(0, 1, 5);
        h.fill(2, 2, 5);
        h.fill(3, 2, 5);
        Hands.open(h, 2, 3, 1);
        Hands.open(h, 0, 1, 1);
        Hands.open(h, 3, 2, 1);
        way(check, "first", h, 0, 2, 3, 1, 1);
        way(check, "second", h, 1, 0, 1, 1, 0);
        way(check, "third", h, 2, 3, 2, 1, 2);
        check.due("no way 3", h.way(3, 0), -1);
        check.due("no way -1", h.way(-1, 0), -1);
        check.due("what -1", h.way(0, -1), -1);
        check.due("far", h.way(Integer.MAX_VALUE, 0) + h.way(0, Integer.MAX_VALUE) + h.way(Integer.MIN_VALUE, Integer.MIN_VALUE), -3);
        Hands.close(h, 0, 1);
        way(check, "the first stays", h, 0, 2, 3, 1, 1);
        way(check, "the third is the second", h, 1, 3, 2, 1, 2);
        check.due("no way 2", h.way(2, 0), -1);
    }
}
