/** THE WALK and FAULTS: waits and ramps that the walk of a second did not come to, as it was over before. */
public final class FaultEdgesTest {
    public static void main(String[] args) {
        Check check = new Check();
        waitBehindFault(check);
        rampBehindFault(check);
        for (int faulty = 0; faulty < 256; faulty++) {
            for (int rest = 0; rest < 3; rest++) {
                waits(check, faulty, rest);
                ramps(check, faulty, rest);
            }
        }
        tooManyStatements(check);
        tooManyActs(check);
        begunAgain(check);
        asks(check);
        rounds(check);
        heldByHand(check);
        again(check);
        check.done();
    }

    private static void waitBehindFault(Check check) {
        BreweryHouse h = Hands.started("signal a;limit 1/a>0{wait 2 s;}then{}");
        h.signal(0, 1);
        check.due("14: begun in second 0", h.tick(1), 0);
        h.signal(0, 0);
        check.due("14: a fault in second 1", h.tick(1), 2);
        h.signal(0, 1);
        h.hold(false);
        check.due("14: 2 seconds later", h.tick(1), 1);
    }

    private static void rampBehindFault(Check check) {
        BreweryHouse h = Hands.started("output b;signal a;par{until 1/a>5;}{ramp b 4 in 4 s;}");
        h.signal(1, 4294967295L);
        check.due("14: begun in second 0", h.tick(1), 0);
        h.signal(1, 0);
        check.due("14: a fault in second 1", h.tick(1), 2);
        check.due("23: the walk did not come to it", h.value(0), 0);
        h.signal(1, 1);
        h.hold(false);
        check.due("14: goes on", h.tick(1), 0);
        check.due("23: 2 seconds behind its begin", h.value(0), 2000);
    }

    /** A second of the run, with a fault or not; behind a fault it rests for some seconds, then it may go on. */
    private static boolean walk(Check check, String title, BreweryHouse h, boolean fault, int rest) {
        h.signal(0, fault ? 0 : 1000);
        int state = h.tick(1);
        if (fault) {
            check.due(title + ": held", state, 2);
            check.due(title + ": rests", h.tick(rest), 2);
            check.due(title + ": may go on", h.hold(false), true);
        }
        return state == 1;
    }

    /** Waits of all lengths, looked at behind a limit or an until that fails in some seconds (bits of faulty). */
    private static void waits(Check check, int faulty, int rest) {
        String[] around = {"limit 1/a>0{wait %d s;}then{}", "par{wait %d s;}{limit 1/a>0{wait 1 s;wait %<d s;wait 9 s;}then{}}"};
        for (int n = 1; n <= 6; n++) {
            String title = "wait " + n + " s, faults in " + Integer.toBinaryString(faulty) + ", " + rest + " seconds between";
            BreweryHouse h = Hands.started("signal a;" + String.format(around[0], n));
            BreweryHouse twin = Hands.started("signal a;" + String.format(around[1], n));
            walk(check, title, h, false, 0);
            walk(check, title, twin, false, 0);
            boolean ended = false;
            for (int second = 1; second <= 9 && !ended; second++) {
                boolean fault = (faulty >> second - 1 & 1) != 0;
                ended = walk(check, title, h, fault, rest);
                check.due(title + ": ends in second " + second, ended, second >= n && !fault);
                walk(check, title, twin, fault, rest);
                boolean first = twin.still(0) == 1;
                check.due(title + ": the first side in second " + second, first, !ended);
            }
        }
    }

    /** Ramps behind and in front of what fails. */
    private static void ramps(Check check, int faulty, int rest) {
        String[] texts = {"signal a;output o;set o 10;par{until 1/a>5;}{ramp o %d in %d s;}{wait 20 s;}",
            "signal a;output o;set o 10;limit 1/a>0{ramp o %d in %d s;wait 20 s;}then{}",
            "signal a;output o;set o 10;par{ramp o %d in %d s;}{until 1/a>5;}{wait 20 s;}"};
        for (int t = 0; t < texts.length; t++) {
            int n = 1 + (faulty + t) % 9;
            int goal = faulty % 2 == 0 ? 3 : 25;
            String title = String.format(texts[t], goal, n) + " faults in " + Integer.toBinaryString(faulty);
            BreweryHouse h = Hands.started(String.format(texts[t], goal, n));
            walk(check, title, h, false, 0);
            long due = 10000;
            for (int second = 1; second <= 10; second++) {
                boolean fault = (faulty >> second - 1 & 1) != 0;
                walk(check, title, h, fault, rest);
                if (t == 2 || !fault) {
                    due = second >= n ? goal * 1000 : 10000 + Math.floorDiv((goal * 1000L - 10000) * second, n);
                }
                check.due(title + " second " + second, h.value(1), due);
            }
        }
    }

    private static void tooManyStatements(Check check) {
        BreweryHouse h = Hands.started("output o;output p;par{wait 1 s;repeat 2000{wait 0 s;}}{ramp o 8 in 8 s;}{wait 3 s;set p 1;}{wait 9 s;}");
        h.tick(1);
        for (int second = 1; second <= 4; second++) {
            check.due("the 1,001st in second " + second, h.tick(1), 2);
            check.due("nothing behind it goes on", h.value(0) + h.value(1), 0);
            h.hold(false);
        }
        check.due("all were begun", h.tick(1), 0);
        check.due("5 seconds behind its begin", h.value(0), 5000);
        check.due("the wait goes on", h.value(1), 1000);
        h.tick(4);
        check.due("9 seconds behind its begin all have ended", h.state(), 1);
    }

    private static void tooManyActs(Check check) {
        BreweryHouse h = Hands.started("output o;par{wait 1 s;" + Check.times("act 0;", 25) + "}{ramp o 4 in 4 s;wait 1 s;}");
        h.tick(1);
        check.due("the 11th act", h.tick(1) + h.value(0), 2);
        h.hold(false);
        check.due("the 21st act", h.tick(1) + h.value(0), 2);
        h.hold(false);
        check.due("the others", h.tick(1), 0);
        check.due("3 seconds behind its begin", h.value(0), 3000);
        check.due("its end", h.tick(1) + h.value(0), 4000);
        check.due("the wait behind it", h.tick(1), 1);
    }

    /** What was to be begun is so again: its seconds count from then. */
    private static void begunAgain(Check check) {
        BreweryHouse h = Hands.started("signal a;output o;par{wait 1 s;wait 2 s/a;}{wait 3 s;set o 1;wait 9 s;}");
        h.tick(1);
        check.due("a fault of the second wait", h.tick(1), 2);
        h.signal(0, 1000);
        h.tick(4);
        h.hold(false);
        h.tick(1);
        check.due("it is begun in second 2 of the run", h.still(0) >= 0 && h.value(1) == 0, true);
        int node = h.still(0);
        h.tick(1);
        check.due("it stands", h.still(0), node);
        check.due("the wait of the other side goes on in second 3", h.value(1), 1000);
        h.tick(1);
        check.due("2 seconds behind its begin", h.still(0) != node, true);
        // A ramp whose seconds fail has not begun: it goes from the output that is there then.
        h = Hands.started("signal a;output o;par{wait 1 s;ramp o 8 in 4 s/a;}{wait 2 s;set o 4;wait 9 s;}");
        h.tick(1);
        check.due("a fault of the ramp", h.tick(1), 2);
        h.signal(0, 1000);
        h.hold(false);
        h.tick(2);
        check.due("1 second behind its begin, from 0", h.value(1), 2000);
        // A wait that began in front of a fault began in that second.
        h = Hands.started("signal a;output o;par{wait 1 s;wait 2 s;set o 1;}{wait 1 s;set o 7/a;wait 9 s;}");
        h.tick(1);
        check.due("a fault behind the begin", h.tick(1), 2);
        h.signal(0, 1000);
        h.hold(false);
        h.tick(1);
        check.due("it stands", h.value(1), 7000);
        h.tick(1);
        check.due("2 seconds behind that", h.value(1), 1000);
    }

    private static void asks(Check check) {
        BreweryHouse h = Hands.started("signal a;signal b;output o;limit 1/a>0{ask b;set o b;wait 2 s;}then{}");
        h.signal(0, 1000);
        h.tick(1);
        check.due("15: answered", h.answer(5000), true);
        h.signal(0, 0);
        check.due("a fault", h.tick(1), 2);
        check.due("it did not go on", h.value(2), 0);
        h.signal(0, 1000);
        h.hold(false);
        check.due("its answer is there", h.tick(1) + h.value(2), 5000);
        check.due("the wait begins then", h.tick(1), 0);
        check.due("and ends", h.tick(1), 1);
    }

    private static void rounds(Check check) {
        BreweryHouse h = Hands.started("signal a;output o;limit 1/a>0{repeat 3{wait 2 s;set o o+1;}}then{}");
        long[] due = {0, 0, 1000, 1000, 1000, 2000, 2000, 3000};
        for (int second = 0; second < due.length; second++) {
            // The second round ends in second 4, but the walk of that comes to nothing.
            walk(check, "rounds", h, second == 4 || second == 1, 1);
            check.due("round by round, second " + second, h.value(1), due[second]);
        }
        check.due("ended", h.state(), 1);
    }

    private static void heldByHand(Check check) {
        BreweryHouse h = Hands.started("output o;par{ramp o 4 in 4 s;}{wait 5 s;}");
        h.tick(2);
        h.hold(true);
        h.tick(10);
        check.due("a held run does not walk", h.value(0), 1000);
        h.hold(false);
        h.tick(1);
        check.due("its seconds do not count", h.value(0), 2000);
        h.hold(true);
        h.hold(false);
        h.tick(1);
        check.due("no second between", h.value(0), 3000);
        check.due("the wait stands", h.tick(1) + h.still(0), 5);
        check.due("and ends", h.tick(1), 1);
    }

    /** A run that begins anew has nothing of the seconds of the one before. */
    private static void again(Check check) {
        BreweryHouse h = Hands.started("signal a;output o;limit 1/a>0{ramp o 4 in 4 s;}then{}");
        for (int i = 0; i < 3; i++) {
            walk(check, "run " + i, h, false, 0);
            walk(check, "run " + i, h, true, 2);
            walk(check, "run " + i, h, true, 0);
            check.due("run " + i + ": not come to", h.value(1), 0);
            walk(check, "run " + i, h, false, 0);
            check.due("run " + i + ": 3 seconds", h.value(1), 3000);
            h.start();
        }
    }
}
