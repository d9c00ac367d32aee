/** Terms, SPACES and A SECOND OF THE HOUSE, and promises 4, 14, 27, 30: litres that move, empty and full. */
public final class SecondEdgesTest {
    public static void main(String[] args) {
        Check check = new Check();
        filling(check);
        rates(check);
        emptyFirstTank(check);
        fullSecondTank(check);
        fullBehindSeveralPipes(check);
        waysBehindAClosedOne(check);
        drainedPipes(check);
        emptyLitres(check);
        pipeOfOneLitre(check);
        pipeOfManyLitres(check);
        lastLitreOfAPipe(check);
        backwards(check);
        orderOfWays(check);
        orderOfSteps(check);
        seconds(check);
        looking(check);
        check.done();
    }

    private static int litres(BreweryHouse h, int... spaces) {
        int all = 0;
        for (int s : spaces) {
            all = all * 1000 + h.space(s, 1);
        }
        return all;
    }

    private static void filling(Check check) {
        for (int size : new int[] {1, 2, 100000}) {
            BreweryHouse h = Hands.house("tank " + size + "\ntank " + size + "\n");
            check.due("one more than fits, " + size, h.fill(0, 1, size + 1L), false);
            check.due("empty still, " + size, litres(h, 0) + h.space(0, 0) + h.space(0, 2), 0);
            check.due("as many as fit, " + size, h.fill(0, 1, size), true);
            check.due("full, " + size, litres(h, 0), size);
            check.due("one litre more, " + size, h.fill(0, 1, 1), false);
            check.due("one litre, " + size, h.fill(1, 14, 1), true);
            check.due("what is left, and one more, " + size, h.fill(1, 14, size), false);
            check.due("what is left, " + size, size == 1 || h.fill(1, 14, size - 1), true);
            check.due("full too, " + size, litres(h, 1), size);
        }
        BreweryHouse h = Hands.house("tank 100000\npump\nvalve 0\npipe 0 1 5\n");
        long[] wrong = {0, -1, 100001, Long.MIN_VALUE, Long.MAX_VALUE, 1L << 32, (1L << 32) + 1, -(1L << 32) + 1};
        for (long litres : wrong) {
            check.due("litres " + litres, h.fill(0, 1, litres), false);
        }
        for (int liquid : new int[] {0, 15, -1, Integer.MIN_VALUE, Integer.MAX_VALUE}) {
            check.due("liquid " + liquid, h.fill(0, liquid, 1), false);
        }
        for (int tank : new int[] {-1, 1, 2, 3, 4, Integer.MIN_VALUE, Integer.MAX_VALUE}) {
            check.due("tank " + tank, h.fill(tank, 1, 1), false);
        }
        check.due("nothing came", litres(h, 0) + h.space(0, 2), 0);
        check.due("100,000 litres of liquid 1", h.fill(0, 1, 100000), true);
        check.due("no plant", new BreweryHouse().fill(0, 1, 1), false);
    }

    private static void rates(Check check) {
        for (int rate : new int[] {1, 2, 99, 100}) {
            BreweryHouse h = Hands.house("tank 900\ntank 900\npipe 0 1 1\n");
            h.fill(0, 1, 900);
            check.due("OPEN for " + rate, Hands.open(h, 0, 1, rate), 0);
            check.due("no second went by", litres(h, 0), 900);
            h.tick(1);
            check.due("one second at " + rate, litres(h, 0), 900 - rate);
            check.due("one is in the pipe, at " + rate, litres(h, 1), rate - 1);
            h.tick(3);
            check.due("four seconds at " + rate, litres(h, 0), 900 - 4 * rate);
            h.tick(0);
            check.due("no more seconds", litres(h, 1), 4 * rate - 1);
        }
        BreweryHouse h = Hands.house("tank 9\ntank 9\npipe 0 1 1\n");
        check.due("0 litres a second", h.bind(0, 0, 0, 1, 0), false);
        check.due("101 litres a second", h.bind(0, 0, 0, 1, 101), false);
    }

    private static void emptyFirstTank(Check check) {
        for (int litres = 1; litres <= 6; litres++) {
            BreweryHouse h = Hands.house("tank 9\ntank 9\npipe 0 1 2\n");
            h.fill(0, 3, litres);
            Hands.open(h, 0, 1, 4);
            h.tick(1);
            int moved = Math.min(litres, 4);
            check.due("a second with " + litres, litres(h, 0, 2, 1), (litres - moved) * 1000000 + Math.min(moved, 2) * 1000 + Math.max(0, moved - 2));
            check.due("its liquid with " + litres, h.space(0, 0), litres > 4 ? 3 : 0);
            check.due("its last one with " + litres, h.space(0, 2), 3);
            h.tick(600);
            check.due("it stays in the pipe, with " + litres, litres(h, 0, 2, 1), Math.min(litres, 2) * 1000 + Math.max(0, litres - 2));
            check.due("the way is open, with " + litres, h.way(0, 2), 1);
        }
        // When litres come again it goes on.
        BreweryHouse h = Hands.house("tank 9\ntank 9\npipe 0 1 2\n");
        h.need(3, 3, 0);
        h.fill(0, 3, 1);
        Hands.open(h, 0, 1, 4);
        h.tick(5);
        h.fill(0, 3, 2);
        h.tick(1);
        check.due("it goes on", litres(h, 0, 2, 1), 2001);
    }

    private static void fullSecondTank(Check check) {
        for (int size = 1; size <= 5; size++) {
            BreweryHouse h = Hands.house("tank 9\ntank " + size + "\npipe 0 1 1\n");
            h.fill(0, 3, 9);
            Hands.open(h, 0, 1, 4);
            h.tick(1);
            int came = Math.min(size, 3);
            check.due("a second into " + size, litres(h, 0, 2, 1), (8 - came) * 1000000 + 1000 + came);
            h.tick(2);
            check.due("full of " + size, litres(h, 0, 2, 1), (8 - size) * 1000000 + 1000 + size);
        }
        // The tank is full, but nothing comes while what leaves the pipe is empty.
        BreweryHouse h = Hands.house("tank 9\ntank 2\npipe 0 1 3\n");
        h.fill(0, 3, 9);
        h.fill(1, 3, 2);
        check.due("OPEN into a full tank", Hands.open(h, 0, 1, 2), 0);
        h.tick(1);
        check.due("two empty litres leave", litres(h, 0, 2, 1), 7002002);
        h.tick(1);
        check.due("a third one", litres(h, 0, 2, 1), 6003002);
        h.tick(5);
        check.due("then it does not fit", litres(h, 0, 2, 1), 6003002);
        // One litre fits, and no more.
        h = Hands.house("tank 9\ntank 3\npipe 0 1 1\n");
        h.fill(0, 3, 9);
        h.fill(1, 3, 2);
        Hands.open(h, 0, 1, 100);
        h.tick(1);
        check.due("one litre fits", litres(h, 0, 2, 1), 7001003);
    }

    /** What would come is what leaves the last pipe, not another one. */
    private static void fullBehindSeveralPipes(Check check) {
        BreweryHouse h = Hands.house("tank 9\ntank 2\nvalve 0\nvalve 0\npipe 0 2 1\npipe 2 3 2\npipe 3 1 3\n");
        h.fill(0, 1, 9);
        h.fill(1, 1, 2);
        Hands.open(h, 0, 1, 4);
        h.tick(1);
        check.due("pipe 0 is full, the last one is empty: it moves", litres(h, 0, 4), 5001);
        check.due("the next one is full, too", litres(h, 5, 6), 2001);
        h.tick(5);
        check.due("all pipes are full, and the tank", litres(h, 4, 5, 6), 1002003);
        check.due("what is left", litres(h, 0, 1), 3002);
        // The other way round: the last pipe has litres at its end, the first one has none.
        h = Hands.house("tank 9\ntank 1\nvalve 2\ntank 9\npipe 2 1 2\npipe 0 2 2\npipe 3 2 1\n");
        h.fill(3, 1, 9);
        h.fill(1, 1, 1);
        Hands.open(h, 3, 1, 2);
        h.tick(2);
        Hands.close(h, 3, 1);
        check.due("the last pipe is full, pipe 1 is empty", litres(h, 4, 5, 6), 2000001);
        h.fill(0, 1, 9);
        Hands.open(h, 0, 1, 1);
        h.tick(2);
        check.due("nothing fits, nothing moves", litres(h, 0, 5), 9000);
    }

    /** When one way is closed the others go on as they were: their litres a second, their liquid, their pipes. */
    private static void waysBehindAClosedOne(Check check) {
        String plant = Check.times("tank 90\n", 6) + "valve 0\npipe 0 1 1\npipe 2 6 1\npipe 6 3 1\npipe 4 5 7\n";
        for (int closed = 0; closed < 3; closed++) {
            BreweryHouse h = Hands.house(plant);
            for (int k = 0; k < 3; k++) {
                h.fill(2 * k, 1 + k, 90);
                check.due("OPEN " + k, Hands.open(h, 2 * k, 2 * k + 1, 3 + 2 * k), 0);
            }
            h.tick(1);
            Hands.close(h, 2 * closed, 2 * closed + 1);
            h.tick(4);
            for (int k = 0; k < 3; k++) {
                int moved = (3 + 2 * k) * (k == closed ? 1 : 5);
                int room = k == 0 ? 1 : k == 1 ? 2 : 7;
                check.due("way " + k + ", when " + closed + " was closed", litres(h, 2 * k, 2 * k + 1), (90 - moved) * 1000 + Math.max(0, moved - room));
                check.due("liquid " + k + ", when " + closed + " was closed", h.space(2 * k + 1, 2), k == 2 && k == closed ? 0 : 1 + k);
            }
            check.due("two are open", h.way(1, 0) >= 0 && h.way(2, 0) < 0, true);
            check.due("pipes of the first", h.way(0, 2), closed == 0 ? 2 : 1);
            check.due("pipes of the second", h.way(1, 2), closed == 2 ? 2 : 1);
            check.due("the last pipe of the one with two", h.way(closed == 0 ? 0 : 1, 4), closed == 1 ? -1 : 2);
        }
        // A full tank behind the last of them.
        BreweryHouse h = Hands.house("tank 9\ntank 9\ntank 9\ntank 1\npipe 0 1 9\npipe 2 3 1\n");
        h.fill(0, 1, 9);
        h.fill(2, 2, 9);
        Hands.open(h, 0, 1, 1);
        Hands.open(h, 2, 3, 2);
        h.tick(1);
        Hands.close(h, 0, 1);
        h.tick(3);
        check.due("full behind the other one", litres(h, 2, 5, 3), 7001001);
    }

    /** A pipe that was drained is empty, litre by litre, whatever its number is. */
    private static void drainedPipes(Check check) {
        for (int p = 0; p < 24; p++) {
            BreweryHouse h = Hands.house("tank 900\ntank 900\n" + Check.times("pipe - - 1\n", p) + "pipe 0 1 200\n" + Check.times("pipe - - 1\n", 23 - p));
            h.need(1, 1, 0);
            h.fill(0, 1, 900);
            Hands.open(h, 0, 1, 100);
            h.tick(2);
            Hands.close(h, 0, 1);
            check.due("full pipe " + p, litres(h, 2 + p), 200);
            Hands.drain(h, 2 + p);
            check.due("drained pipe " + p, litres(h, 2 + p) + h.space(2 + p, 0), 0);
            Hands.open(h, 0, 1, 100);
            h.tick(2);
            check.due("only empty litres left pipe " + p, litres(h, 1, 2 + p), 200);
        }
    }

    private static void emptyLitres(Check check) {
        // Two litres, three empty ones, and then litres again: they leave in their order.
        BreweryHouse h = Hands.house("tank 9\ntank 9\ntank 9\nvalve 2\npipe 0 3 5\npipe 3 1 1\npipe 2 3 1\n");
        h.need(1, 1, 0);
        h.fill(0, 1, 2);
        Hands.open(h, 0, 1, 1);
        h.tick(3);
        check.due("two litres at the begin of the pipe", litres(h, 0, 4, 5, 1), 2000000);
        Hands.close(h, 0, 1);
        // Backwards the three empty litres do not come first: those two do.
        h.fill(1, 1, 9);
        Hands.open(h, 1, 0, 1);
        h.tick(1);
        check.due("a litre comes back", litres(h, 0), 1);
        h.tick(1);
        check.due("the other one comes back", litres(h, 0), 2);
        h.tick(3);
        check.due("three empty ones", litres(h, 0), 2);
        h.tick(1);
        check.due("one of the litres behind, over the empty one of pipe 1", litres(h, 0), 2);
        h.tick(1);
        check.due("then litres come", litres(h, 0), 3);
    }

    private static void pipeOfOneLitre(Check check) {
        BreweryHouse h = Hands.house("tank 9\ntank 9\nvalve 0\nvalve 0\npipe 0 2 1\npipe 2 3 1\npipe 3 1 1\n");
        h.fill(0, 1, 5);
        Hands.open(h, 0, 1, 1);
        int[] due = {4001000, 3001001, 2001001, 1001001, 1001, 1001};
        for (int i = 0; i < due.length; i++) {
            check.due("the pipe behind " + i, litres(h, 5), i < 2 ? 0 : 1);
            h.tick(1);
            check.due("pipes of one litre, second " + i, litres(h, 0, 4, 5), i == 5 ? 1001 : due[i]);
        }
        check.due("two litres arrived", litres(h, 6, 1), 1002);
    }

    private static void pipeOfManyLitres(Check check) {
        for (int room : new int[] {63, 64, 65, 127, 128, 129, 191, 192, 193, 199, 200}) {
            BreweryHouse h = Hands.house("tank 900\ntank 900\npipe 0 1 " + room + "\n");
            h.fill(0, 1, 450);
            Hands.open(h, 0, 1, 100);
            int moved = 0;
            for (int second = 0; second < 6; second++) {
                h.tick(1);
                moved = Math.min(450, moved + 100);
                check.due("room " + room + ", pipe, second " + second, litres(h, 2), Math.min(room, moved));
                check.due("room " + room + ", tank, second " + second, litres(h, 1), Math.max(0, moved - room));
            }
            Hands.close(h, 0, 1);
            // Backwards: all that is in the pipe comes back, litre by litre.
            check.due("room " + room + ", OPEN back", Hands.open(h, 1, 0, 1), 6);
            h.need(1, 1, 0);
            check.due("room " + room + ", OPEN back, clean", Hands.open(h, 1, 0, 100), 0);
            h.tick(2);
            check.due("room " + room + ", back", litres(h, 0, 2), 200000 + room);
            Hands.close(h, 1, 0);
            Hands.drain(h, 2);
            check.due("room " + room + ", drained", litres(h, 2) + h.space(2, 0), 0);
            Hands.open(h, 1, 0, 100);
            h.tick(1);
            int left = 450 - room - 200;
            check.due("room " + room + ", empty litres come first", litres(h, 0), 200 + Math.max(0, Math.min(100, left) - room));
        }
    }

    private static void lastLitreOfAPipe(Check check) {
        // A litre goes through an empty pipe: it has it, then it has none, and remembers it.
        BreweryHouse h = Hands.house("tank 9\ntank 9\nvalve 2\ntank 9\npipe 0 2 2\npipe 2 1 2\npipe 3 2 1\n");
        h.need(1, 1, 0);
        h.fill(0, 1, 1);
        Hands.open(h, 0, 1, 1);
        h.tick(1);
        Hands.close(h, 0, 1);
        check.due("pipe 0 has it", h.space(4, 0) * 10 + h.space(4, 1), 11);
        check.due("pipe 1 never had one", h.space(5, 0) + h.space(5, 2), 0);
        h.fill(1, 1, 1);
        Hands.open(h, 1, 0, 1);
        h.tick(1);
        check.due("the litre of pipe 0 is back, pipe 1 has one", litres(h, 0, 4, 5, 1) % 1000000, 1000);
        check.due("pipe 0 has none", h.space(4, 0), 0);
        check.due("pipe 0 remembers it", h.space(4, 2), 1);
        check.due("tank 0 has it", litres(h, 0), 1);
    }

    private static void backwards(Check check) {
        // A way over a pipe from its second end to its first one.
        BreweryHouse h = Hands.house("tank 9\ntank 9\npipe 1 0 3\n");
        h.fill(0, 1, 5);
        Hands.open(h, 0, 1, 2);
        h.tick(1);
        check.due("two are in it", litres(h, 0, 2, 1), 3002000);
        h.tick(1);
        check.due("one leaves it", litres(h, 0, 2, 1), 1003001);
        h.tick(1);
        check.due("the tank is empty", litres(h, 0, 2, 1), 3002);
    }

    private static void orderOfWays(Check check) {
        // Tank 1 has room for three: the way that was opened first moves first.
        String plant = "tank 9\ntank 3\ntank 9\npipe 0 1 1\npipe 2 1 1\n";
        for (int first = 0; first <= 2; first += 2) {
            BreweryHouse h = Hands.house(plant);
            h.fill(0, 1, 9);
            h.fill(2, 1, 9);
            Hands.open(h, first, 1, 3);
            Hands.open(h, 2 - first, 1, 3);
            h.tick(1);
            check.due("the first moves three, two arrive", litres(h, first), 6);
            check.due("the second moves two, one arrives", litres(h, 2 - first), 7);
            check.due("full", litres(h, 1), 3);
        }
        // What the first one brings the second one takes on in the same second.
        BreweryHouse h = Hands.house("tank 9\ntank 9\ntank 9\npipe 0 1 1\npipe 1 2 1\n");
        h.need(1, 1, 0);
        h.fill(0, 1, 9);
        h.fill(1, 1, 1);
        Hands.open(h, 0, 1, 2);
        Hands.open(h, 1, 2, 9);
        h.tick(1);
        check.due("in one second", litres(h, 0, 1, 2), 7000001);
    }

    /** Sensed before the walk, moved behind it; held and stopped runs close ways before litres move. */
    private static void orderOfSteps(Check check) {
        BreweryHouse h = Hands.program("signal p l;signal t s;output o l;repeat 9{set o p;act 0;wait 1 s;}");
        Check.read(h, 0, "tank 9\ntank 9\npipe 0 1 1\n");
        h.sense(0, 0, 0);
        h.sense(1, 4, 0);
        h.bind(0, 0, 0, 1, 1);
        h.fill(0, 1, 9);
        h.start();
        for (int i = 0; i < 3; i++) {
            h.tick(1);
            check.due("(1) sensed before (3) the walk, " + i, h.value(2), 9000 - 1000 * i);
            check.due("(5) litres move behind (3) the walk, " + i, litres(h, 0), 8 - i);
            check.due("the second is one more behind all, " + i, h.value(1) + h.second(), 1001 * i + 1);
        }
        h = Hands.program("act 0;wait 1 s;hold;wait 1 s;");
        Check.read(h, 0, "tank 9\ntank 9\npipe 0 1 1\n");
        Check.read(h, 1, "bar a1 when c0;");
        h.watch(0, 3, 0, 1);
        h.bind(0, 0, 0, 1, 1);
        h.fill(0, 1, 9);
        h.start();
        h.tick(1);
        check.due("(1) ways are counted before (3) the walk", h.row(1, 3), 0);
        check.due("tick answers the state", h.tick(1), 2);
        check.due("(4) closed before (5) litres move", litres(h, 0), 8);
        check.due("(1) it was open when it was sensed", h.row(1, 3), 1);
        h.tick(1);
        check.due("now it is not", h.row(1, 3), 0);
    }

    private static void seconds(Check check) {
        BreweryHouse h = new BreweryHouse();
        int all = 0;
        for (int seconds : new int[] {0, 1, 599, 600, 0, 2}) {
            check.due("tick(" + seconds + ")", h.tick(seconds), 4);
            all += seconds;
            check.due("seconds", h.second(), all);
        }
        for (int seconds : new int[] {-1, 601, Integer.MIN_VALUE, Integer.MAX_VALUE}) {
            check.due("tick(" + seconds + ")", h.tick(seconds), -1);
            check.due("no second went by", h.second(), all);
        }
    }

    private static void looking(Check check) {
        BreweryHouse h = Hands.house("tank 9\npump\nvalve 2\ntank 5\npipe 0 1 5\npipe 3 - 7\n");
        int[][] due = {{0, 0, 0, 0, -1}, {-1, -1, -1, -1, -1}, {-1, -1, -1, -1, 0}, {0, 0, 0, 0, -1}, {0, 0, 0, 0, -1}, {0, 0, 0, 0, -1}};
        for (int x = 0; x < due.length; x++) {
            for (int what = 0; what < 5; what++) {
                check.due("space(" + x + ", " + what + ")", h.space(x, what), due[x][what]);
            }
            check.due("space(" + x + ", 5)", h.space(x, 5), -1);
            check.due("space(" + x + ", -1)", h.space(x, -1), -1);
        }
        for (int x : new int[] {-1, 6, Integer.MIN_VALUE, Integer.MAX_VALUE}) {
            for (int what = 0; what < 5; what++) {
                check.due("space(" + x + ", " + what + ")", h.space(x, what), -1);
            }
        }
        h.fill(0, 14, 9);
        h.fill(3, 1, 1);
        check.due("the last liquid is what it has", h.space(0, 2) * 100 + h.space(3, 2), 1401);
        h.need(1, 2, 0);
        h.need(2, 1, 0);
        for (int liquid : new int[] {2, 1, 2, 1}) {
            Hands.drain(h, 3);
            check.due("the last liquid is the one before", h.space(3, 2), 3 - liquid);
            h.fill(3, liquid, 1);
            check.due("the last liquid is what it has now", h.space(3, 2), liquid);
        }
        check.due("liquids", h.space(0, 0) * 100 + h.space(3, 0), 1401);
        check.due("litres", litres(h, 0, 3), 9001);
    }
}
