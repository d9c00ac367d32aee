/** Promises 8, 10, 13 to 17 and 22 to 25: runs of programs. */
public final class RunTest {
    private static final String PLANT = "tank 10\ntank 10\nvalve 6\npipe 0 2 1\npipe 2 1 1\n";

    public static void main(String[] args) {
        Check check = new Check();
        states(check);
        holding(check);
        starting(check);
        sensing(check);
        asking(check);
        waiting(check);
        ramps(check);
        values(check);
        sides(check);
        limits(check);
        repeats(check);
        faults(check);
        actsOfPrograms(check);
        waysOfRuns(check);
        alarms(check);
        order(check);
        check.done();
    }

    private static BreweryHouse program(String text) {
        BreweryHouse h = new BreweryHouse();
        if (Check.read(h, 2, text) < 0) {
            System.out.println("wrong text: " + text);
        }
        return h;
    }

    private static BreweryHouse started(String text) {
        BreweryHouse h = program(text);
        h.start();
        return h;
    }

    private static void still(Check check, String what, BreweryHouse h, int... due) {
        for (int i = 0; i < due.length; i++) {
            check.due("24: " + what + ", " + i, h.still(i), due[i]);
        }
        check.due("24: " + what + ", behind", h.still(due.length), -1);
        check.due("24: " + what + ", before", h.still(-1), -1);
    }

    private static void states(Check check) {
        BreweryHouse h = program("wait 2 s;stop;");
        check.due("22: none", h.state(), 4);
        check.due("16: none", h.hold(true) || h.hold(false), false);
        check.due("17: none", h.stop(), false);
        check.due("13: begins", h.start(), true);
        check.due("22: on", h.state(), 0);
        check.due("14: no second", h.tick(0), 0);
        check.due("14: waits", h.tick(2), 0);
        check.due("14: stopped", h.tick(1), 3);
        check.due("16: stopped", h.hold(true) || h.hold(false), false);
        check.due("17: stopped", h.stop(), false);
        check.due("14: stays", h.tick(5) + h.state(), 6);
        h.start();
        h.tick(1);
        check.due("17: stop", h.stop(), true);
        check.due("22: stopped", h.state(), 3);
        still(check, "stopped", h);
        h = started("wait 1 s;");
        check.due("14: ends", h.tick(2), 1);
        check.due("17: ended", h.stop(), false);
        check.due("16: ended", h.hold(false), false);
        check.due("14: refused", h.tick(-1) + h.tick(601), -2);
        h = started("stop;wait 1 s;");
        check.due("14: stops at once", h.tick(1), 3);
        h = started("output o;par{stop;}{set o 1;}");
        check.due("14: stop ends the walk", h.tick(1), 3);
        check.due("23: nothing behind it", h.value(0), 0);
    }

    private static void holding(Check check) {
        BreweryHouse h = started("output o;wait 3 s;set o 1;");
        h.tick(2);
        check.due("16: held", h.hold(true), true);
        check.due("16: not new", h.hold(true), false);
        check.due("22: held", h.state(), 2);
        still(check, "held", h, 1);
        check.due("14: held", h.tick(100), 2);
        check.due("16: goes on", h.hold(false), true);
        check.due("16: not new", h.hold(false), false);
        check.due("14: a held run does not count", h.tick(1), 0);
        check.due("14: third second", h.tick(1), 1);
        check.due("23: set", h.value(0), 1000);
        h.start();
        h.hold(true);
        check.due("17: stops a held one", h.stop(), true);
        // hold holds when the walk is over, if the run has not ended by then.
        h = started("output o;hold;set o 1;wait 1 s;set o 2;hold;set o 3;");
        check.due("14: hold", h.tick(1), 2);
        check.due("23: goes on to the wait", h.value(0), 1000);
        h.hold(false);
        check.due("14: ended", h.tick(1), 1);
        check.due("23: all done", h.value(0), 3000);
        h = started("par{hold;}{stop;}");
        check.due("14: stopped, not held", h.tick(1), 3);
    }

    private static void starting(Check check) {
        BreweryHouse h = program("signal a;signal b;output o;set o 5;ask a;");
        h.sense(1, 4, 0);
        h.tick(3);
        h.signal(0, 7);
        h.start();
        check.due("13: sensed ones stay", h.value(1), 2000);
        check.due("13: others are 0", h.value(0), 0);
        h.act(0);
        check.due("25: alarm", h.alarm(0, 2), 11);
        h.tick(1);
        h.answer(3);
        check.due("23: output, answer", h.value(2) + h.value(0), 5003);
        check.due("13: again", h.start(), true);
        check.due("13: outputs are 0", h.value(2), 0);
        check.due("13: no alarms", h.alarm(0, 2), -1);
        still(check, "nothing was begun", h);
        h.tick(1);
        still(check, "from the start", h, 2);
        h.hold(true);
        check.due("13: from held", h.start(), true);
        check.due("22: on", h.state(), 0);
        BreweryHouse steps = program("step a{stop;}output o;");
        check.due("13: no statements outside of steps", steps.start(), false);
        check.due("22: none", steps.state(), 4);
    }

    private static void sensing(Check check) {
        BreweryHouse h = program("signal a;signal b;signal d;signal e;signal f;output o;step g{}");
        Check.read(h, 0, PLANT);
        h.fill(0, 9, 6);
        h.bind(0, 0, 0, 1, 2);
        check.due("8: told", h.sense(0, 0, 0) && h.sense(1, 1, 3) && h.sense(2, 2, 2) && h.sense(3, 3, -5) && h.sense(4, 4, 99), true);
        check.due("8: output, step, none", h.sense(5, 0, 0) || h.sense(6, 0, 0) || h.sense(7, 0, 0) || h.sense(-1, 0, 0), false);
        check.due("8: what", h.sense(0, -1, 0) || h.sense(0, 6, 0), false);
        h.act(0);
        check.due("8: from the next second on", h.value(0) + h.value(1) + h.value(2), 0);
        h.tick(1);
        senses(check, h, 6000, 0, 1000, 1000, 0);
        h.tick(1);
        senses(check, h, 4000, 9000, 1000, 1000, 1000);
        check.due("10: a sensed one too", h.signal(0, -77), true);
        check.due("23: value", h.value(0), -77);
        h.sense(4, 5, 0);
        h.tick(1);
        senses(check, h, 2000, 9000, 1000, 1000, 1000);
        h.sense(0, 0, 2);
        h.sense(1, 1, 5);
        h.sense(2, 2, 0);
        h.sense(3, 1, 1);
        h.tick(1);
        senses(check, h, -1, -1, -1, 9000, 1000);
        h.sense(0, 0, 3);
        h.sense(1, 1, -1);
        h.sense(2, 2, -1);
        h.sense(3, 0, 99);
        h.tick(1);
        senses(check, h, -1, -1, -1, -1, 1000);
        check.due("10: output, step, none", h.signal(5, 1) || h.signal(6, 1) || h.signal(7, 1) || h.signal(-1, 1), false);
        check.due("10: any value", h.signal(4, Long.MIN_VALUE), true);
        check.due("23: any value", h.value(4), Long.MIN_VALUE);
        check.due("23: step, none", h.value(6) + h.value(7) + h.value(-1), 0);
    }

    private static void senses(Check check, BreweryHouse h, long... due) {
        for (int i = 0; i < due.length; i++) {
            check.due("8: signal " + i + " behind second " + h.second(), h.value(i), due[i]);
        }
    }

    private static void asking(Check check) {
        BreweryHouse h = started("signal a;signal b;output o;par{ask a;set o 1;}{wait 1 s;ask b;set o o + 2;}{ask a;wait 9 s;}");
        check.due("15: not begun", h.answer(1), false);
        h.tick(1);
        still(check, "two asks", h, 0, 5, 12);
        check.due("15: the first", h.answer(4), true);
        check.due("23: its signal", h.value(0), 4);
        still(check, "stands up to the next second", h, 0, 5, 12);
        check.due("23: not yet", h.value(2), 0);
        check.due("15: the next", h.answer(5), true);
        check.due("23: the same signal", h.value(0), 5);
        check.due("15: no more", h.answer(6), false);
        h.tick(1);
        check.due("23: went on", h.value(2), 1000);
        still(check, "ask b", h, 6, 14);
        h.hold(true);
        check.due("15: held", h.answer(6), false);
        h.hold(false);
        check.due("15: b", h.answer(6), true);
        h.tick(1);
        check.due("23: both", h.value(2), 3000);
        h.tick(9);
        check.due("15: ended", h.answer(6) || h.state() != 1, false);
    }

    private static void waiting(Check check) {
        BreweryHouse h = started("output o;wait 0.999 s;set o 1;wait 0 s - 5 s;set o 2;wait 1.999 s;set o 3;until o > 2;set o 4;until o = 9;");
        h.tick(1);
        check.due("14: at once for less than 1", h.value(0), 2000);
        h.tick(1);
        check.due("14: whole seconds", h.value(0), 4000);
        check.due("22: until", h.state(), 0);
        h = started("signal p;output o;until p > 3;set o 1;until p < 3;set o 2;");
        h.tick(2);
        h.signal(0, 3001);
        h.tick(1);
        check.due("14: until, looked at in each second", h.value(1), 1000);
        h.signal(0, 2999);
        check.due("14: ended", h.tick(1), 1);
        h = started("wait 1 h;");
        for (int i = 0; i < 6; i++) {
            check.due("14: an hour", h.tick(600), 0);
        }
        check.due("14: is 3,600 seconds", h.tick(1), 1);
    }

    private static void ramps(Check check) {
        BreweryHouse h = started("output o;output v;set o 1;ramp o 0 in 3 s;set v 1;ramp o 5 in 0.5 s;ramp o 0 - 5 in 4 s;");
        long[] due = {1000, 666, 333, 5000, 2500, 0, -2500, -5000};
        for (int i = 0; i < due.length; i++) {
            h.tick(1);
            check.due("14: ramp " + i, h.value(0), due[i]);
            check.due("14: behind the ramp " + i, h.value(1), i < 3 ? 0 : 1000);
        }
        check.due("22: ended", h.state(), 1);
        h = started("output o;set o 0 - 1;ramp o 0 in 7 s;");
        h.tick(2);
        check.due("14: rounded down", h.value(0), -858);
        // The values are reckoned when it is begun.
        h = started("output o;signal p;par{ramp o p in 4 s;}{wait 1 s;set o 100;}");
        h.signal(1, 8000);
        h.tick(1);
        h.signal(1, 0);
        h.tick(1);
        check.due("14: set behind it", h.value(0), 100000);
        h.tick(1);
        check.due("14: from where it began", h.value(0), 4000);
        still(check, "ramp", h, 2);
    }

    private static void values(Check check) {
        BreweryHouse h = started("output a;output b;output d;output e;output f;output g;signal p;"
                + "set a 7 / 2 * 3 - -1.5;set b -7 / 2;set d -0.001 * 0.999;set e (1 + 2) * 3 - 4 - 5;set f p * p;set g 2 / 3;");
        h.signal(6, 4000000000000000000L);
        h.tick(1);
        check.due("23: a", h.value(0), 12000);
        check.due("23: towards 0", h.value(1), -3500);
        check.due("23: towards 0, product", h.value(2), 0);
        check.due("23: from the left", h.value(3), 0);
        check.due("23: wraps", h.value(4), 4000000000000000000L * 4000000000000000000L / 1000);
        check.due("23: thousandths", h.value(5), 666);
    }

    private static void sides(Check check) {
        BreweryHouse h = started("output o;par{until o = 2;set o 5;}{set o 2;}{wait 2 s;set o 2;}wait 1 s;set o 9;");
        h.tick(1);
        check.due("14: looked at before the set", h.value(0), 2000);
        h.tick(1);
        check.due("14: in the next second", h.value(0), 5000);
        h.tick(1);
        check.due("14: par ends when all have", h.value(0), 2000);
        h.tick(1);
        check.due("14: behind par", h.value(0), 9000);
    }

    private static void limits(Check check) {
        BreweryHouse h = started("signal p;signal q;output o;limit p < 5{limit q < 5{wait 9 s;}then{set o 1;wait 9 s;}}then{set o 2;wait 9 s;}set o 3;");
        h.tick(1);
        still(check, "in the first block", h, 7);
        h.signal(1, 5000);
        h.tick(1);
        check.due("14: the inner one is passed", h.value(2), 1000);
        check.due("25: its node", h.alarm(0, 1), 14);
        check.due("25: its kind", h.alarm(0, 2), 3);
        h.signal(1, 0);
        h.signal(0, 5000);
        h.tick(1);
        check.due("14: the outer one is passed", h.value(2), 2000);
        check.due("25: its node", h.alarm(1, 1), 21);
        check.due("25: its second", h.alarm(1, 0), 2);
        h.signal(0, 0);
        check.due("14: it stays passed", h.tick(8), 0);
        check.due("14: ends with that block", h.tick(1), 1);
        check.due("23: behind it", h.value(2), 3000);
        check.due("25: no more", h.alarm(2, 0), -1);
        // Around before in it: the outer one gives the inner one up.
        h.start();
        h.tick(1);
        h.signal(0, 5000);
        h.signal(1, 5000);
        h.tick(1);
        check.due("25: the outer one", h.alarm(0, 1), 21);
        check.due("25: alone", h.alarm(1, 1), -1);
        // Looked at when it is begun.
        h.start();
        h.signal(0, 9000);
        h.tick(1);
        check.due("25: at once", h.alarm(0, 2), 3);
        check.due("23: at once", h.value(2), 2000);
    }

    private static void repeats(Check check) {
        BreweryHouse h = started("output o;repeat 2.9{set o o + 1;}repeat 0{set o 50;}repeat -3{set o 50;}repeat 2{wait 1 s;set o o + 10;}");
        h.tick(1);
        check.due("14: as many times", h.value(0), 2000);
        h.tick(1);
        check.due("14: first round", h.value(0), 12000);
        check.due("14: second round", h.tick(1), 1);
        check.due("23: all", h.value(0), 22000);
        // A limit that was passed in one round stands anew in the next one.
        h = started("signal p;output o;repeat 3{limit p < 1{wait 5 s;}then{set o o + 1;}wait 1 s;}");
        h.tick(1);
        h.signal(0, 1000);
        h.tick(1);
        check.due("14: passed", h.value(1), 1000);
        h.signal(0, 0);
        h.tick(1);
        still(check, "a new round", h, 5);
        h.tick(5);
        still(check, "the block ended", h, 14);
        check.due("23: not passed", h.value(1), 1000);
    }

    private static void faults(Check check) {
        BreweryHouse h = started("signal p;output o;par{wait 3 s;}{set o 1 / p + 1;}{set o 7;}");
        check.due("14: held", h.tick(1), 2);
        check.due("25: division", h.alarm(0, 1) * 100 + h.alarm(0, 2), 501);
        still(check, "what was begun", h, 1);
        check.due("14: stays held", h.tick(5), 2);
        h.hold(false);
        check.due("14: again", h.tick(1), 2);
        check.due("25: again", h.alarm(1, 0), 6);
        check.due("23: the walk was over", h.value(1), 0);
        h.signal(0, 1000);
        h.hold(false);
        check.due("14: goes on", h.tick(1), 0);
        check.due("23: all done", h.value(1), 7000);
        check.due("14: ended", h.tick(1), 1);
        // A limit and an until whose look fails are looked at again.
        h = started("signal p;signal q;output o;limit 1 / p > 0{until 1 / q = 1;}then{}set o 1;");
        h.tick(1);
        check.due("25: limit", h.alarm(0, 1), 2);
        h.hold(false);
        h.signal(0, 1000);
        h.tick(1);
        check.due("25: until", h.alarm(1, 1), 7);
        h.hold(false);
        h.signal(1, 2000);
        check.due("14: stands", h.tick(1), 0);
        h.signal(0, 0);
        check.due("14: limit again", h.tick(1), 2);
        check.due("25: limit again", h.alarm(2, 1), 2);
        h.hold(false);
        h.signal(0, 1000);
        h.signal(1, 1000);
        check.due("14: ended", h.tick(1), 1);
        counts(check);
    }

    private static void counts(Check check) {
        // 1 for the repeat, 2 for each round.
        BreweryHouse h = started("output o;repeat 499{set o o + 1;}wait 1 s;");
        check.due("14: 1,000 are begun", h.tick(1), 0);
        check.due("23: all", h.value(0), 499000);
        h = started("output o;repeat 499{set o o + 1;}stop;wait 1 s;");
        check.due("14: stop is the 1,000th", h.tick(1), 3);
        h = started("output o;repeat 499{set o o + 1;}hold;stop;");
        check.due("14: stop is the 1,001st", h.tick(1), 2);
        check.due("25: its node", h.alarm(0, 1) * 100 + h.alarm(0, 2), 802);
        h.hold(false);
        check.due("14: in the next second", h.tick(1), 3);
        h = started("repeat 9999{}");
        check.due("14: blocks too", h.tick(1), 2);
        check.due("25: the block", h.alarm(0, 1), 1);
        h = started("step a{}repeat 9999{do a;}");
        h.tick(1);
        check.due("25: 1 and 3 in each round, the 1,001st is a block of the repeat", h.alarm(0, 1), 4);
        h.hold(false);
        h.tick(1);
        check.due("25: then 333 times 3 and a block", h.alarm(1, 1), 3);
        h = started("output o;repeat 9999{par{set o o + 1;}{}if 1 = 1{}else{}}");
        h.tick(1);
        // 1, then block, par, block, set, block, if, block in each round: 142 rounds make 995.
        check.due("23: rounds", h.value(0), 143000);
        check.due("25: the if", h.alarm(0, 1), 13);
    }

    private static void actsOfPrograms(Check check) {
        BreweryHouse h = started("act 0;act 1;act 2;wait 1 s;repeat 11{act 3;}");
        Check.read(h, 0, PLANT);
        h.start();
        h.bind(0, 2, 2, 7, 0);
        h.bind(1, 2, 0, 7, 0);
        check.due("14: waits", h.tick(1), 0);
        check.due("27: done", h.space(2, 4), 7);
        check.due("25: not bound", h.alarm(0, 1) * 100 + h.alarm(0, 2), 111);
        check.due("25: not bound", h.alarm(1, 1) * 100 + h.alarm(1, 2), 211);
        check.due("14: eleven acts", h.tick(1), 2);
        check.due("25: the last", h.alarm(12, 1) * 100 + h.alarm(12, 2), 602);
        h.hold(false);
        check.due("14: the eleventh", h.tick(1), 1);
        check.due("25: it too", h.alarm(13, 2), 11);
        check.due("25: by hand", h.act(9), 1);
        check.due("25: by hand, node", h.alarm(14, 1), -1);
        check.due("25: by hand, second", h.alarm(14, 0), 3);
        Check.read(h, 1, "bar a0 when not c0 for 2;");
        h.start();
        h.tick(1);
        check.due("25: barred later", h.alarm(0, 2), 11);
        h.start();
        h.tick(1);
        check.due("25: barred", h.alarm(0, 1) * 100 + h.alarm(0, 2), 12);
        h.pass(1, 1, 2, 1);
        h.start();
        h.tick(1);
        check.due("25: the by-pass goes by before the walk", h.alarm(0, 2), 12);
        h.pass(1, 1, 2, 2);
        h.start();
        h.tick(1);
        check.due("25: by-passed", h.alarm(0, 2), 11);
    }

    private static void waysOfRuns(Check check) {
        String[] ends = {"hold;wait 1 s;", "stop;", "set o 1 / 0;", ""};
        for (int i = 0; i < ends.length; i++) {
            BreweryHouse h = program("output o;act 0;wait 1 s;" + ends[i]);
            Check.read(h, 0, PLANT);
            h.bind(0, 0, 0, 1, 1);
            h.fill(0, 1, 9);
            h.start();
            h.tick(1);
            check.due("26: open", h.way(0, 2), 2);
            check.due("27: a litre", h.space(0, 1), 8);
            h.tick(1);
            check.due("26: closed when held or stopped", h.way(0, 2), i < 3 ? -1 : 2);
            check.due("27: before litres are moved", h.space(0, 1), i < 3 ? 8 : 7);
            check.due("27: shut", h.space(2, 4), i < 3 ? 0 : 1);
            h.bind(1, 0, 0, 1, 1);
            check.due("12: by hand", h.act(1), i < 3 ? 0 : 3);
            h.tick(3);
            check.due("26: not closed again", h.way(0, 2), 2);
            if (i == 3) {
                h.start();
                check.due("26: start does not close what an ended run left", h.way(0, 2), 2);
                h.start();
                check.due("26: but that of one that is on", h.way(0, 2), -1);
            }
        }
        BreweryHouse h = program("act 0;wait 99 s;");
        Check.read(h, 0, PLANT);
        h.bind(0, 0, 0, 1, 1);
        h.fill(0, 1, 9);
        for (int i = 0; i < 3; i++) {
            h.start();
            h.tick(1);
            check.due("26: open", h.way(0, 0), 0);
            if (i == 0) {
                h.hold(true);
            } else if (i == 1) {
                h.stop();
            } else {
                Check.read(h, 2, "stop;");
            }
            check.due("26: closed, " + i, h.way(0, 0), -1);
        }
    }

    private static void alarms(Check check) {
        BreweryHouse h = new BreweryHouse();
        for (int i = 0; i < 205; i++) {
            h.tick(1);
            h.act(i % 32);
        }
        check.due("25: number 199", h.alarm(199, 0), 200);
        check.due("25: the first 200", h.alarm(200, 0), -1);
        check.due("25: number 0", h.alarm(0, 0) * 100 + h.alarm(0, 2), 111);
        check.due("25: what", h.alarm(0, 3) + h.alarm(0, -1) + h.alarm(-1, 0), -3);
    }

    private static void order(Check check) {
        // A step that stands before another one in the text is done behind it: the order is that of what is done.
        BreweryHouse h = started("step a{wait 5 s;}step b{wait 6 s;}par{do b;}{do a;}{do b;}");
        h.tick(1);
        still(check, "steps", h, 5, 1, 5);
        h = started("step a{repeat 2{wait 1 s;}}par{do a;wait 9 s;}{do a;do a;}");
        h.tick(1);
        still(check, "twice the same step", h, 2, 2);
        h.tick(2);
        still(check, "each on its own", h, 9, 2);
    }
}
