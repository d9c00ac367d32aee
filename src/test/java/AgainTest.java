/** Promise 3: what an earlier text had told, a right one or a wrong one, does not count in the next ones. */
public final class AgainTest {
    public static void main(String[] args) {
        Check check = new Check();
        plantsWithOpenWays(check);
        pipesOfNewPlants(check);
        pipesThatAreGone(check);
        spacesOfNewPlants(check);
        rowsBeginAnew(check);
        wrongRows(check);
        manyRows(check);
        programsBeginAnew(check);
        wrongPrograms(check);
        runsBeginAnew(check);
        check.done();
    }

    private static final String LINE = "tank 9\ntank 9\nvalve 6\npipe 0 2 1\npipe 2 1 1\n";

    private static void plantsWithOpenWays(Check check) {
        BreweryHouse h = new BreweryHouse();
        for (int i = 0; i < 4; i++) {
            check.reads(h, 0, LINE, 3);
            check.due("no way is open, " + i, h.way(0, 0), -1);
            check.due("no way goes over the valve, " + i, Hands.turn(h, 2, 5), 0);
            check.due("the spaces are on no way, " + i, Hands.clean(h, 0, 1) + Hands.clean(h, 3, 1) + Hands.drain(h, 4), 0);
            check.due("fill, " + i, h.fill(0, 1 + i, 5), true);
            check.due("OPEN, " + i, Hands.open(h, 0, 1, 1), 0);
            check.due("its valve, " + i, h.space(2, 4), 1);
            h.tick(1);
            check.due("it moves, " + i, h.space(0, 1) * 10 + h.space(3, 1), 41);
        }
    }

    private static void pipesOfNewPlants(Check check) {
        // Full pipes, turned by as many litres as it goes; then the same ones, new: what leaves them first is empty.
        int[] rooms = {200, 1, 2, 130, 3, 1, 64};
        for (int side = 0; side < 2; side++) {
            BreweryHouse h = new BreweryHouse();
            for (int room : rooms) {
                String pipe = side == 0 ? "pipe 0 1 " : "pipe 1 0 ";
                Check.read(h, 0, "tank 900\ntank 900\n" + pipe + room + "\n");
                h.fill(0, 2, 900);
                Hands.open(h, 0, 1, 1);
                for (int second = 1; second <= 3; second++) {
                    h.tick(1);
                    check.due("a new pipe of " + room + ", second " + second, h.space(2, 1), Math.min(second, room));
                    check.due("behind a new pipe of " + room + ", second " + second, h.space(1, 1), Math.max(0, second - room));
                }
                h.tick(273);
                check.due("all went through a pipe of " + room, h.space(1, 1), 276 - room);
            }
        }
    }

    /** Pipes and things that the plant before had are not there. */
    private static void pipesThatAreGone(Check check) {
        BreweryHouse h = new BreweryHouse();
        String both = "tank 9\ntank 9\npipe 0 - 1\npipe 1 - 1\n";
        for (int i = 0; i < 3; i++) {
            Check.read(h, 0, both + "pipe 0 1 1\npipe 1 0 1\n");
            h.fill(0, 1, 5);
            check.due("a pipe between them", h.fill(1, 2, 5), false);
            check.due("OPEN over it", Hands.open(h, 0, 1, 1), 0);
            Check.read(h, 0, both + "valve 0\nvalve 0\npipe 0 2 1\npipe 2 3 1\npipe 3 1 1\n");
            h.fill(0, 1, 5);
            check.due("two valves between them", h.fill(1, 2, 5), true);
            check.due("OPEN over it", Hands.open(h, 0, 1, 1), 6);
            for (int again = 0; again < 2; again++) {
                Check.read(h, 0, both);
                check.due("no pipe between them: fill", h.fill(0, 1, 5) && h.fill(1, 2, 5), true);
                check.due("no pipe between them: OPEN", Hands.open(h, 0, 1, 1), 5);
                check.due("no space 4", h.space(4, 0), -1);
            }
        }
        // Ports that have no pipe any more.
        Check.read(h, 0, "tank 9\ntank 9\nvalve 0\npipe 0 2 1\npipe 2 1 1\n");
        Check.read(h, 0, "pump\n");
        Check.read(h, 0, "tank 9\ntank 9\nvalve 0\npipe 0 2 1\npipe 1 - 1\n");
        check.due("one pipe at the valve: fill", h.fill(0, 1, 5) && h.fill(1, 2, 5), true);
        check.due("one pipe at the valve: OPEN", Hands.open(h, 0, 1, 1), 5);
    }

    private static void spacesOfNewPlants(Check check) {
        BreweryHouse h = new BreweryHouse();
        for (int i = 1; i < 6; i++) {
            Check.read(h, 0, "tank 9\ntank 9\ntank 9\npipe 0 1 1\n");
            for (int x = 0; x < 4; x++) {
                check.due("never used: liquid, litres, last, level", h.space(x, 0) + h.space(x, 1) + h.space(x, 2) + h.space(x, 3), 0);
            }
            check.due("any liquid may come", h.fill(2, i, 9) && h.fill(0, i, 9), true);
            Hands.drain(h, 2);
            check.due("no level before a cleaning", h.space(2, 3), 0);
            Hands.clean(h, 2, i);
            check.due("level", h.space(2, 3), i);
            h.tick(1);
        }
    }

    private static void rowsBeginAnew(Check check) {
        BreweryHouse h = new BreweryHouse();
        for (int i = 0; i < 4; i++) {
            Check.read(h, 1, "bar a0 a1 when not c0 for 2 latched;bar a2 when not c0;");
            for (int row = 1; row <= 2; row++) {
                check.due("not counted, latched, by-passed", h.row(row, 0) + h.row(row, 1) + h.row(row, 2), 0);
            }
            check.due("it does not hold yet", h.bars(0), 0);
            check.due("the other one does", h.bars(2), 2);
            h.tick(2);
            check.due("counted, latched", h.row(1, 0) * 10 + h.row(1, 1), 21);
            check.due("by-passed", h.pass(1, 1, 2, 50) + h.pass(2, 1, 2, 60), 0);
            // Without for and latched.
            Check.read(h, 1, "bar a3 when not c0;bar a4 when c0;");
            check.due("not counted, latched, by-passed", h.row(1, 0) + h.row(1, 1) + h.row(1, 2), 0);
            check.due("it holds at once", h.bars(3), 1);
            check.due("other acts are not barred", h.bars(0) + h.bars(1) + h.bars(2) + h.bars(4), 0);
            h.tick(2);
            check.due("counted, not latched", h.row(1, 0) * 10 + h.row(1, 1), 20);
            // An odd number of texts, so that each comes behind each.
            if (i % 2 == 1) {
                Check.read(h, 1, "");
            }
        }
    }

    private static void wrongRows(Check check) {
        BreweryHouse h = new BreweryHouse();
        String open = "bar a0 when " + Check.times("(", 20);
        String shut = Check.times(")", 20);
        for (int i = 0; i < 3; i++) {
            check.reads(h, 1, open, -3 - 23);
            check.reads(h, 1, "bar a0 when " + Check.times("not ", 20) + "x", -3 - 23);
            check.reads(h, 1, open + "c0" + shut + ";", 1);
            check.reads(h, 1, open + "(c0", -3 - 23);
        }
        check.reads(h, 1, "bar a0 a1 a2 a3 a4 a5 a6 a7 when x", -3 - 10);
        check.reads(h, 1, "bar a0 a1 when c0;", 1);
        check.reads(h, 1, "x", -3 - 0);
        check.reads(h, 1, "x y z", -3 - 0);
        check.reads(h, 1, "bar x", -3 - 1);
        check.reads(h, 1, "bar a0 when not c0;", 1);
        check.due("it is read right", h.bars(0), 1);
    }

    /** As many conditions as a text can have, again and again: the last row counts as the first. */
    private static void manyRows(Check check) {
        String row = "bar a0 when c0" + Check.times(" or c0", 31) + ";";
        String last = "bar a1 when c0" + Check.times(" or c0", 25) + " or not c1;";
        String most = Check.times(row, 19) + last;
        check.due("nearly 4,000 bytes", most.length() <= 4000 && most.length() > 3980, true);
        BreweryHouse h = new BreweryHouse();
        check.reads(h, 1, most, 20);
        check.due("row 20 is on", h.row(20, 3), 1);
        check.due("row 19 is not", h.row(19, 3), 0);
        check.due("row 20 bars", h.bars(1), 20);
        // Three texts of 756 words of conditions and operators each; the first two are wrong at their end.
        h = new BreweryHouse();
        String many = Check.times(row, 12);
        check.reads(h, 1, many + "bar", -3 - 12 * 67 - 1);
        check.reads(h, 1, many + "bar", -3 - 12 * 67 - 1);
        check.reads(h, 1, "bar a0 when c0;bar a1 when c0 or not c1;bar a2 when not (c0 or not c1);", 3);
        check.due("row 2 is on alone", h.row(1, 3) * 100 + h.row(2, 3) * 10 + h.row(3, 3), 10);
    }

    private static void programsBeginAnew(Check check) {
        BreweryHouse h = new BreweryHouse();
        for (int i = 0; i < 4; i++) {
            Hands.take(h, "signal a l;output b c;step g{repeat 1{wait 5 s;}}set b 3 c;do g;");
            check.due("values are 0, " + i, h.value(0) + h.value(1), 0);
            h.signal(0, 7);
            h.sense(0, 4, 0);
            h.start();
            h.tick(1);
            check.due("node, " + i, h.still(0), 2);
            check.due("output, " + i, h.value(1), 3000);
            Hands.take(h, "output a;signal b s;set a 2;wait b;ask b;");
            check.due("values are 0, " + i, h.value(0) + h.value(1), 0);
            check.due("a is no signal, " + i, h.signal(0, 1) || h.sense(0, 4, 0), false);
            h.start();
            h.tick(1);
            check.due("node, " + i, h.still(0), 4);
            check.due("b is not sensed, " + i, h.value(1), 0);
            h.answer(8);
            check.due("answer, " + i, h.value(1), 8);
        }
        // 300 nodes, 40 names, 500 statements and blocks, 40 blocks in one another: again and again.
        h = new BreweryHouse();
        String names = "";
        for (int i = 0; i < 40; i++) {
            names += "signal s" + i + ";";
        }
        for (int i = 0; i < 3; i++) {
            check.reads(h, 2, Check.times("hold;", 60), 60);
            check.reads(h, 2, names, 0);
        }
        check.reads(h, 2, Check.times("hold;", 300), 300);
        // Where a step that is 40 blocks deep was done, and where a statement is now in one block.
        StringBuilder deep = new StringBuilder("step a1{}");
        for (int i = 2; i <= 40; i++) {
            deep.append("step a").append(i).append("{do a").append(i - 1).append(";}");
        }
        check.reads(h, 2, deep + "do a40;", 40);
        check.reads(h, 2, "repeat 1{" + Check.times("hold;", 200) + "}", 201);
        check.reads(h, 2, "par{}{}", 1);
        check.reads(h, 2, "step a{hold;}do a;", 2);
    }

    private static void wrongPrograms(Check check) {
        BreweryHouse h = new BreweryHouse();
        String open = Check.times("repeat 1{", 20);
        for (int i = 0; i < 2; i++) {
            check.reads(h, 2, open, -3 - open.length());
            check.reads(h, 2, "output n;set n " + Check.times("(", 20), -3 - 35);
            check.reads(h, 2, "output n;set n " + Check.times("-", 20) + "x", -3 - 35);
            check.reads(h, 2, open + Check.times("}", 20), 20);
        }
        // Names and statements of a wrong text.
        check.reads(h, 2, "signal a;output b;step d{stop;}stop;x", -3 - 36);
        check.reads(h, 2, "output a;step b{}signal d;", 0);
        check.due("no statements outside of steps", h.start(), false);
        check.due("d is the signal", h.signal(2, 5) && !h.signal(0, 5) && !h.signal(1, 5), true);
        check.reads(h, 2, "stop;x", -3 - 5);
        check.reads(h, 2, "x", -3 - 0);
        check.due("the old program stays", h.signal(2, 6), true);
        // A text that is too large at its end.
        String step = "step a{" + Check.times("hold;", 98) + "}";
        check.reads(h, 2, step + Check.times("do a;", 6), -3 - step.length() - 30);
        check.reads(h, 2, "output n;set n 1;repeat 1{set n 2;}", 3);
        h.start();
        check.due("it ends", h.tick(1), 1);
        check.due("it was done", h.value(0), 2000);
    }

    /** A run begins as if there had been none before: limits, ramps, asks, rounds, sides. */
    private static void runsBeginAnew(Check check) {
        BreweryHouse h = Hands.program("signal a;output o;limit a<5{par{ramp o 4 in 2 s;}{ask a;}}then{set o 9;wait 1 s;}wait 1 s;");
        for (int i = 0; i < 3; i++) {
            h.start();
            check.due("nothing stands, " + i, h.still(0), -1);
            check.due("no alarm, " + i, h.alarm(0, 0), -1);
            if (i == 1) {
                h.signal(0, 9000);
                h.tick(1);
                check.due("passed as it is begun, once", h.alarm(0, 2) * 10 + h.alarm(1, 2), 29);
                check.due("its second block", h.value(1), 9000);
                continue;
            }
            h.tick(2);
            check.due("half of the ramp, " + i, h.value(1), 2000);
            check.due("answer, " + i, h.answer(1), true);
            h.tick(1);
            check.due("all of the ramp, " + i, h.value(1), 4000);
        }
    }
}
