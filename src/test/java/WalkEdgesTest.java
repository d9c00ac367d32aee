/** Terms, VALUES, THE WALK, FAULTS, ALARMS, and promises 13 to 17 and 22 to 25: every boundary that they name. */
public final class WalkEdgesTest {
    public static void main(String[] args) {
        Check check = new Check();
        wraps(check);
        towardsZero(check);
        tests(check);
        waits(check);
        repeats(check);
        ramps(check);
        untils(check);
        asks(check);
        limits(check);
        pars(check);
        holdsAndStops(check);
        divisions(check);
        thousandBegun(check);
        tenActs(check);
        faultsGoOn(check);
        alarmsUpTo200(check);
        starts(check);
        lookingAtStill(check);
        emptyBlocks(check);
        roundsBeginAnew(check);
        limitThatWasNotBegun(check);
        largestProgram(check);
        deepestProgram(check);
        closedWays(check);
        heldWays(check);
        check.done();
    }

    /** What a sum is, with signals a, b of the values. */
    private static long sum(String sum, long a, long b) {
        BreweryHouse h = Hands.started("signal a;signal b;output o;set o " + sum + ";");
        h.signal(0, a);
        h.signal(1, b);
        h.tick(1);
        return h.value(2);
    }

    private static final long MAX = Long.MAX_VALUE;
    private static final long MIN = Long.MIN_VALUE;

    private static void wraps(Check check) {
        check.due("MAX + 1", sum("a+b", MAX, 1), MIN);
        check.due("MIN - 1", sum("a-b", MIN, 1), MAX);
        check.due("- MIN", sum("-a", MIN, 0), MIN);
        check.due("- MAX", sum("-a", MAX, 0), -MAX);
        check.due("MAX * 2", sum("a*b", MAX, 2000), MAX * 2000 / 1000);
        check.due("MIN * -0.001", sum("a*b", MIN, -1), MIN / 1000);
        check.due("2 to the 32nd, squared", sum("a*b", 1L << 32, 1L << 32), 0);
        check.due("2 to the 31st, by 2 to the 32nd", sum("a*b", 1L << 31, 1L << 32), MIN / 1000);
        check.due("MAX / 1", sum("a/b", MAX, 1000), MAX * 1000 / 1000);
        check.due("MIN / -0.001", sum("a/b", MIN, -1), 0);
        check.due("1000 to be MIN, by -0.001", sum("a/b", 1L << 60, -1), -((1L << 60) * 1000));
        check.due("MAX / MAX", sum("a/b", MAX, MAX), MAX * 1000 / MAX);
        check.due("any value", sum("a", MIN, 0), MIN);
        // A product whose thousandths are MIN by -1: the division itself wraps.
        check.due("MIN / 8 by -0.001", sum("a/b", MIN / 8, -1), MIN);
    }

    private static void towardsZero(Check check) {
        check.due("1.999 * 0.001", sum("a*b", 1999, 1), 1);
        check.due("-1.999 * 0.001", sum("a*b", -1999, 1), -1);
        check.due("0.999 * 0.001", sum("a*b", 999, 1), 0);
        check.due("-0.999 * 0.001", sum("a*b", -999, 1), 0);
        check.due("1 * 0.001", sum("a*b", 1000, 1), 1);
        check.due("2 / 3", sum("a/b", 2000, 3000), 666);
        check.due("-2 / 3", sum("a/b", -2000, 3000), -666);
        check.due("2 / -3", sum("a/b", 2000, -3000), -666);
        check.due("-2 / -3", sum("a/b", -2000, -3000), 666);
        check.due("0.001 / 1.001", sum("a/b", 1, 1001), 0);
        check.due("0.001 / 1", sum("a/b", 1, 1000), 1);
        check.due("0 / 0.001", sum("a/b", 0, 1), 0);
        check.due("0.001 / 0.001", sum("a/b", 1, 1), 1000);
        check.due("from the left", sum("8/4/2-1-1*2*3", 0, 0), -6000);
        check.due("brackets", sum("8/(4/2)-(1-1)*2*3", 0, 0), 4000);
        check.due("signs", sum("-a*-b--a", 3000, 2000), 9000);
    }

    private static void tests(Check check) {
        long[][] values = {{0, 0}, {0, 1}, {1, 0}, {-1, 0}, {MIN, MAX}, {MAX, MIN}, {MAX, MAX}, {999, 1000}, {1000, 1000}};
        for (long[] v : values) {
            for (String test : new String[] {"<", "=", ">"}) {
                BreweryHouse h = Hands.started("signal a;signal b;output o;if a" + test + "b{set o 1;}else{set o 2;}");
                h.signal(0, v[0]);
                h.signal(1, v[1]);
                h.tick(1);
                boolean due = test.equals("<") ? v[0] < v[1] : test.equals("=") ? v[0] == v[1] : v[0] > v[1];
                check.due(v[0] + test + v[1], h.value(2), due ? 1000 : 2000);
            }
        }
        BreweryHouse h = Hands.started("output o;set o 5;if 1=2{set o 1;}");
        check.due("without else it ends", h.tick(1), 1);
        check.due("without else nothing is done", h.value(0), 5000);
    }

    /** In which tick, from 1, what stands behind the statement is done; 0 when it is not within six. */
    private static int behind(String statement, long value) {
        BreweryHouse h = Hands.started("signal a s;signal b;output o;" + statement + "set o 1;wait 9 s;");
        h.signal(0, value);
        h.signal(1, value);
        for (int i = 1; i <= 6; i++) {
            h.tick(1);
            if (h.value(2) != 0) {
                return i;
            }
        }
        return 0;
    }

    private static void waits(Check check) {
        long[][] due = {{0, 1}, {-1, 1}, {-1000, 1}, {-5000, 1}, {MIN, 1}, {999, 1}, {1000, 2}, {1999, 2}, {2000, 3}, {3999, 4}, {4000, 5}, {MAX, 0}};
        for (long[] d : due) {
            check.due("wait of " + d[0], behind("wait a;", d[0]), d[1]);
        }
        // What it needs is reckoned when it is begun.
        BreweryHouse h = Hands.started("signal a s;wait a;");
        h.signal(0, 2000);
        h.tick(1);
        h.signal(0, 0);
        check.due("a second later", h.tick(1), 0);
        check.due("two seconds later", h.tick(1), 1);
    }

    private static void repeats(Check check) {
        long[][] due = {{0, 0}, {-1000, 0}, {MIN, 0}, {999, 0}, {1000, 1}, {1999, 1}, {2000, 2}, {3000, 3}};
        for (long[] d : due) {
            BreweryHouse h = Hands.started("signal a;output o;repeat a{set o o+1;}");
            h.signal(0, d[0]);
            check.due("repeat of " + d[0] + " ends", h.tick(1), 1);
            check.due("repeat of " + d[0], h.value(1), d[1] * 1000);
        }
        BreweryHouse h = Hands.started("signal a;output o;repeat a{wait 1 s;set o o+1;}");
        h.signal(0, 2000);
        h.tick(1);
        h.signal(0, 9000);
        h.tick(1);
        check.due("how often is reckoned when it is begun", h.tick(1), 1);
        check.due("two rounds", h.value(1), 2000);
        h = Hands.started("signal a;output o;repeat a{set o o+1;wait 1 s;}");
        h.signal(0, MAX);
        check.due("more rounds than all seconds", h.tick(600), 0);
        check.due("one in each second", h.value(1), 600000);
        h = Hands.started("signal a;repeat a{}");
        h.signal(0, MAX);
        check.due("rounds without seconds: a fault", h.tick(1), 2);
    }

    private static void ramps(Check check) {
        // From v to b in n: the values second by second, from its begin.
        long[][] due = {
            {0, 10000, 4000, 0, 2500, 5000, 7500, 10000, 10000}, {10000, 0, 3000, 10000, 6666, 3333, 0, 0, 0},
            {0, -1, 3000, 0, -1, -1, -1, -1, -1}, {0, 1, 3000, 0, 0, 0, 1, 1, 1}, {5, 5, 2999, 5, 5, 5, 5, 5, 5},
            {7, 9, 999, 9, 9, 9, 9, 9, 9}, {7, 9, 0, 9, 9, 9, 9, 9, 9}, {7, 9, -4000, 9, 9, 9, 9, 9, 9}, {7, 9, MIN, 9, 9, 9, 9, 9, 9},
            {7, 9, 1000, 7, 9, 9, 9, 9, 9}, {7, 9, 1999, 7, 9, 9, 9, 9, 9}, {7, 9, 2000, 7, 8, 9, 9, 9, 9}, {-7, 7, 5000, -7, -5, -2, 1, 4, 7},
            {0, MAX, 2000, 0, MAX / 2, MAX, MAX, MAX, MAX}, {MIN, MAX, 2000, MIN, MIN + Math.floorDiv(-1L, 2L), MAX, MAX, MAX, MAX},
            {0, MAX, 3000, 0, MAX / 3, Math.floorDiv(MAX * 2, 3L), MAX, MAX, MAX}};
        for (long[] d : due) {
            BreweryHouse h = Hands.started("signal a;signal b;signal n s;output o;set o a;ramp o b in n;wait 9 s;");
            h.signal(0, d[0]);
            h.signal(1, d[1]);
            h.signal(2, d[2]);
            for (int i = 0; i < 6; i++) {
                h.tick(1);
                check.due("ramp from " + d[0] + " to " + d[1] + " in " + d[2] + ", second " + i, h.value(3), d[3 + i]);
                h.signal(1, 12345);
                h.signal(2, 0);
            }
        }
        check.due("ramp for less than 1 ends at once", behind("ramp o 0 in a;", 999), 1);
        // It ends where its last value is set.
        BreweryHouse h = Hands.started("output o;ramp o 6 in 2 s;set o 7;");
        h.tick(1);
        check.due("begun", h.value(0), 0);
        h.tick(1);
        check.due("half", h.value(0), 3000);
        check.due("ended", h.tick(1), 1);
        check.due("behind it", h.value(0), 7000);
    }

    private static void untils(Check check) {
        BreweryHouse h = Hands.started("signal a;output o;until a>5;set o 1;until a<5;set o 2;");
        h.signal(0, 5001);
        h.tick(1);
        check.due("looked at when it is begun", h.value(1), 1000);
        h.signal(0, 5000);
        h.tick(1);
        check.due("5 is not less", h.value(1), 1000);
        h.signal(0, 4999);
        check.due("looked at in each second", h.tick(1), 1);
        check.due("4.999 is", h.value(1), 2000);
    }

    private static void asks(Check check) {
        BreweryHouse h = Hands.started("signal a;signal b;output o;ask a;ask b;set o a+b;");
        check.due("no ask before a second", h.answer(1), false);
        check.due("its signal stays", h.value(0), 0);
        h.tick(1);
        check.due("the first", h.answer(MAX), true);
        check.due("its value", h.value(0), MAX);
        check.due("not again", h.answer(2), false);
        check.due("its value stays", h.value(0), MAX);
        check.due("node of the answered one", h.still(0), 0);
        check.due("no other one", h.still(9), -1);
        h.tick(0);
        check.due("no second", h.still(0), 0);
        h.tick(1);
        check.due("the second behind the answer", h.still(0), 1);
        check.due("looking does not count", h.still(9), -1);
        check.due("the second ask", h.answer(MIN), true);
        check.due("its value", h.value(1), MIN);
        check.due("the other one stays", h.value(0), MAX);
        check.due("ended", h.tick(1), 1);
        check.due("both", h.value(2), -1);
        check.due("no run is on", h.answer(3), false);
        // Held and stopped runs, and none.
        h = Hands.started("signal a;ask a;");
        h.tick(1);
        h.hold(true);
        check.due("held", h.answer(5), false);
        check.due("its value stays", h.value(0), 0);
        h.hold(false);
        check.due("on again", h.answer(5), true);
        h.stop();
        check.due("stopped", h.answer(5), false);
        check.due("no run", Hands.program("signal a;ask a;").answer(5), false);
        check.due("no program", new BreweryHouse().answer(5), false);
        // Of several the first in the order of the text that was not answered.
        h = Hands.started("signal a;signal b;signal d;par{ask b;}{wait 1 s;ask d;}{ask a;}");
        h.tick(1);
        check.due("first", h.answer(1) && h.value(1) == 1, true);
        check.due("third", h.answer(2) && h.value(0) == 2, true);
        check.due("no more", h.answer(3), false);
        h.tick(1);
        check.due("second", h.answer(4) && h.value(2) == 4, true);
        check.due("ended", h.tick(1), 1);
        // One ask that is done twice is answered twice.
        h = Hands.started("signal a;output o;repeat 2{ask a;set o o+a;}");
        for (int i = 0; i < 2; i++) {
            h.tick(1);
            check.due("round " + i, h.answer(5000), true);
            check.due("round " + i + ", not again", h.answer(5000), false);
        }
        check.due("two rounds", h.tick(1) * 100000 + h.value(1), 110000);
    }

    private static void limits(Check check) {
        String text = "signal a;output o;limit a<5{set o 1;wait 3 s;set o 2;}then{set o 3;wait 1 s;set o 4;}set o o+10;";
        BreweryHouse h = Hands.started(text);
        h.signal(0, 4999);
        h.tick(3);
        check.due("not passed", h.value(1), 1000);
        check.due("ends with its block", h.tick(1), 1);
        check.due("behind it", h.value(1), 12000);
        check.due("no alarm", h.alarm(0, 0), -1);
        h = Hands.started(text);
        h.tick(3);
        h.signal(0, 5000);
        h.tick(1);
        check.due("passed in the last second: the first block is given up", h.value(1), 3000);
        check.due("its alarm: second, node, kind", h.alarm(0, 0) * 10000 + h.alarm(0, 1) * 100 + h.alarm(0, 2), 30000 + 1700 + 3);
        check.due("one alarm", h.alarm(1, 0), -1);
        h.signal(0, 0);
        check.due("ends with the second block", h.tick(1), 1);
        check.due("behind it", h.value(1), 14000);
        h = Hands.started(text);
        h.signal(0, 5000);
        h.tick(1);
        check.due("passed when it is begun", h.value(1), 3000);
        check.due("its alarm", h.alarm(0, 2), 3);
        // One that was passed is not looked at again, though its test fails still.
        h = Hands.started("signal a;output o;limit a<5{wait 9 s;}then{set o o+1;wait 3 s;}");
        h.tick(1);
        h.signal(0, 5000);
        h.tick(3);
        check.due("its second block goes on", h.value(1), 1000);
        check.due("it is passed once", h.alarm(0, 2) * 10 + h.alarm(1, 2), 29);
        check.due("it ends", h.tick(1), 1);
        // A limit that has ended is not looked at any more.
        h = Hands.started("signal a;limit a<5{}then{}wait 5 s;");
        h.tick(1);
        h.signal(0, 9000);
        h.tick(1);
        check.due("ended: not passed", h.alarm(0, 0), -1);
        // What is around before what is in it; of parts side by side the first before the next.
        h = Hands.started("signal a;par{limit a<5{limit a<4{wait 9 s;}then{}}then{}}{limit a<3{wait 9 s;}then{}}wait 9 s;");
        h.tick(1);
        h.signal(0, 9000);
        h.tick(1);
        check.due("the outer one first", h.alarm(0, 1), 13);
        check.due("then the one beside it", h.alarm(1, 1), 22);
        check.due("not what was given up", h.alarm(2, 1), -1);
        // Limits are looked at before anything goes on in that second.
        h = Hands.started("output o;par{wait 1 s;set o 9;}{limit o<5{wait 2 s;}then{}}");
        h.tick(2);
        check.due("looked at before the set", h.alarm(0, 0), -1);
        h.tick(1);
        check.due("in the next second", h.alarm(0, 0), 2);
    }

    private static void pars(Check check) {
        BreweryHouse h = Hands.started("output o;par{wait 1 s;}{wait 3 s;}{}set o 1;");
        h.tick(3);
        check.due("not all have ended", h.value(0), 0);
        h.tick(1);
        check.due("all have", h.value(0), 1000);
        // In the order of the text, in each second.
        h = Hands.started("output o;par{set o o*2+1;wait 1 s;set o o*2+1;}{set o o*2;wait 1 s;set o o*2;}");
        h.tick(1);
        check.due("1, then 2", h.value(0), 2000);
        h.tick(1);
        check.due("5, then 10", h.value(0), 10000);
        h = Hands.started("output o;par" + Check.times("{set o o+1;}", 40) + "set o o+1;");
        check.due("many sides end", h.tick(1), 1);
        check.due("many sides", h.value(0), 41000);
    }

    private static void holdsAndStops(Check check) {
        BreweryHouse h = Hands.started("output o;hold;set o 1;");
        check.due("hold, but it has ended by then", h.tick(1), 1);
        check.due("all was done", h.value(0), 1000);
        h = Hands.started("output o;hold;");
        check.due("hold is the last", h.tick(1), 1);
        h = Hands.started("output o;hold;set o 1;wait 1 s;");
        check.due("hold, and it has not ended", h.tick(1), 2);
        check.due("the walk went on", h.value(0), 1000);
        check.due("state", h.state(), 2);
        h = Hands.started("output o;stop;set o 1;");
        check.due("stop", h.tick(1), 3);
        check.due("the walk is over", h.value(0), 0);
        h = Hands.started("output o;par{stop;}{set o 1;}");
        check.due("stop in the first side", h.tick(1) * 10000 + h.value(0), 30000);
        h = Hands.started("output o;par{hold;}{set o 1/0;}");
        check.due("hold, and a fault", h.tick(1), 2);
        h = Hands.started("hold;stop;");
        check.due("hold, and stop", h.tick(1), 3);
        // Calls that are refused in each state.
        h = Hands.program("wait 2 s;");
        refusedCalls(check, "none", h, 4);
        h.start();
        check.due("on: not new", h.hold(false), false);
        check.due("on: state", h.state(), 0);
        check.due("held: new", h.hold(true), true);
        check.due("held: state", h.state(), 2);
        check.due("held: not new", h.hold(true), false);
        check.due("on again: new", h.hold(false), true);
        check.due("on again: state", h.state(), 0);
        check.due("stop", h.stop(), true);
        refusedCalls(check, "stopped", h, 3);
        h.start();
        h.hold(true);
        check.due("stop of a held one", h.stop(), true);
        refusedCalls(check, "stopped when held", h, 3);
        h.start();
        h.tick(3);
        refusedCalls(check, "ended", h, 1);
    }

    private static void refusedCalls(Check check, String what, BreweryHouse h, int state) {
        check.due(what + ": hold(true)", h.hold(true), false);
        check.due(what + ": hold(false)", h.hold(false), false);
        check.due(what + ": stop", h.stop(), false);
        check.due(what + ": answer", h.answer(1), false);
        check.due(what + ": still", h.still(0), -1);
        check.due(what + ": state", h.state(), state);
        check.due(what + ": tick", h.tick(1), state);
    }

    /** A division by 0, wherever it stands: the run is held, the alarm has the division's node. */
    private static void divisions(Check check) {
        String[][] texts = {{"set o 1/a;", "2"}, {"set o 1+1/a;", "3"}, {"wait 1 s/a;", "2"}, {"until 1/a=1;", "2"}, {"ramp o 1/a in 1 s;", "2"},
            {"ramp o 1 in 1 s/a;", "3"}, {"if 1/a=1{}", "2"}, {"if 1=1/a{}", "3"}, {"repeat 0/a{}", "2"}, {"limit 1/a=1{}then{}", "2"},
            {"set o 1/(a*5);", "4"}, {"set o 0/a;", "2"}, {"set o 1/(a+0.0);", "4"}};
        for (String[] t : texts) {
            for (long value : new long[] {0, 1, -1}) {
                BreweryHouse h = Hands.started("signal a;output o;" + t[0] + "wait 9 s;");
                h.signal(0, value);
                check.due(t[0] + " by " + value, h.tick(1), value == 0 ? 2 : 0);
                check.due(t[0] + " by " + value + ", node", h.alarm(0, 1), value == 0 ? Integer.parseInt(t[1]) : t[0].startsWith("limit") ? 7 : -1);
                check.due(t[0] + " by " + value + ", kind", h.alarm(0, 2), value == 0 ? 1 : t[0].startsWith("limit") ? 3 : -1);
                check.due(t[0] + " by " + value + ", one alarm", h.alarm(1, 2), -1);
                if (value == 0) {
                    check.due(t[0] + ", nothing stands", h.still(0), -1);
                    check.due(t[0] + ", nothing is set", h.value(1), 0);
                    check.due(t[0] + ", held", h.tick(1), 2);
                    check.due(t[0] + ", a held run does not walk", h.alarm(1, 2), -1);
                    h.hold(false);
                    check.due(t[0] + ", again", h.tick(1), 2);
                    check.due(t[0] + ", its second", h.alarm(1, 0), 2);
                    h.signal(0, 1000);
                    h.hold(false);
                    check.due(t[0] + ", it goes on", h.tick(1), 0);
                }
            }
        }
    }

    private static void thousandBegun(Check check) {
        // n statements, each begun once: repeat, then block and set in each round.
        BreweryHouse h = Hands.started("output o;repeat 499{set o o+1;}hold;wait 1 s;");
        check.due("1 + 998 + 2: the 1,001st is not begun", h.tick(1), 2);
        check.due("a fault, not the hold", h.alarm(0, 2), 2);
        check.due("what was not begun", h.alarm(0, 1), 9);
        check.due("999 were done", h.value(0), 499000);
        check.due("it does not stand", h.still(0), -1);
        h.hold(false);
        check.due("it is begun when it goes on", h.tick(1), 0);
        check.due("it stands", h.still(0), 9);
        h = Hands.started("output o;repeat 499{set o o+1;}wait 1 s;");
        check.due("1,000 are begun", h.tick(1), 0);
        check.due("the 1,000th stands", h.still(0), 8);
        check.due("no fault", h.alarm(0, 2), -1);
        // Blocks count: a repeat without statements has 999 rounds.
        h = Hands.started("output o;repeat 999{}set o 1;");
        check.due("the set is the 1,001st", h.tick(1), 2);
        check.due("its node", h.alarm(0, 1), 4);
        h = Hands.started("output o;repeat 998{}set o 1;");
        check.due("the set is the 1,000th", h.tick(1), 1);
        h = Hands.started("repeat 1000{}");
        check.due("a block is the 1,001st", h.tick(1), 2);
        check.due("the block's node", h.alarm(0, 1), 1);
        h.hold(false);
        check.due("it ends", h.tick(1), 1);
        // What is looked at again is not begun again; each second counts from 0.
        h = Hands.started("output o;repeat 2{repeat 498{set o o+1;}wait 1 s;}");
        check.due("1,000 in the first second", h.tick(1), 0);
        check.due("999 in the second one", h.tick(1), 0);
        check.due("done", h.value(0), 996000);
        check.due("it ends", h.tick(1), 1);
        // Steps: a do, and its block.
        h = Hands.started("step e{}repeat 333{do e;}");
        check.due("1 + 333 * 3", h.tick(1), 1);
        h = Hands.started("step e{}repeat 333{do e;}hold;");
        check.due("the 1,001st is the hold", h.tick(1), 2);
        check.due("its node", h.alarm(0, 1), 6);
    }

    private static void tenActs(Check check) {
        BreweryHouse h = Hands.started("repeat 10{act 5;}wait 1 s;");
        check.due("ten acts", h.tick(1), 0);
        check.due("ten are refused", h.alarm(9, 2), 11);
        check.due("no fault", h.alarm(10, 2), -1);
        h = Hands.started("repeat 11{act 5;}");
        check.due("eleven acts", h.tick(1), 2);
        check.due("ten are refused", h.alarm(9, 2), 11);
        check.due("the 11th is not begun", h.alarm(10, 1) * 10 + h.alarm(10, 2), 12);
        check.due("no more alarms", h.alarm(11, 2), -1);
        h.hold(false);
        check.due("it is begun when it goes on", h.tick(1), 1);
        check.due("and refused", h.alarm(11, 2), 11);
        // Acts that are done count as well as refused ones; those by hand do not.
        h = Hands.house("tank 9\n");
        Hands.take(h, "repeat 10{act 5;}wait 1 s;");
        h.bind(5, 4, 0, 0, 0);
        h.start();
        h.act(5);
        check.due("ten acts, and one by hand", h.tick(1), 0);
        h = Hands.house("tank 9\n");
        Hands.take(h, "repeat 20{act 5;}");
        h.bind(5, 4, 0, 0, 0);
        h.start();
        check.due("twenty acts", h.tick(1), 2);
        h.hold(false);
        check.due("ten more", h.tick(1), 1);
        // The 11th act when 1,000 were begun: one fault.
        h = Hands.started("repeat 10{act 5;}repeat 488{hold;}act 5;");
        check.due("998 are begun: the act is the 11th", h.tick(1), 2);
        check.due("its node", h.alarm(10, 1), 8);
    }

    private static void faultsGoOn(Check check) {
        // The walk of the second is over where the fault is: what stands behind it in the text does not go on.
        BreweryHouse h = Hands.started("signal a;output o;output v;par{wait 2 s;set v 1;}{until 1/a=1;}{wait 2 s;set o 1;}");
        check.due("held", h.tick(1), 2);
        check.due("the wait before it stands", h.still(0), 1);
        check.due("behind it nothing was begun", h.still(1), -1);
        h.hold(false);
        h.signal(0, 500);
        check.due("goes on", h.tick(1), 0);
        check.due("now three stand", h.still(2) > 0 && h.still(3) < 0, true);
        h.signal(0, 0);
        check.due("a fault at the second look", h.tick(1), 2);
        check.due("the first side went on before", h.value(2), 1000);
        h.signal(0, 1000);
        h.hold(false);
        h.tick(2);
        check.due("ended", h.state(), 1);
        // An until whose look fails has not ended: it is looked at again.
        h = Hands.started("signal a;output o;until 1/a=1;set o 1;");
        h.signal(0, 500);
        h.tick(1);
        h.signal(0, 0);
        check.due("a fault of the until", h.tick(1), 2);
        h.signal(0, 500);
        h.hold(false);
        check.due("it stands", h.tick(1), 0);
        check.due("its node", h.still(0), 5);
        check.due("nothing behind it was done", h.value(1), 0);
        h.signal(0, 1000);
        check.due("it ends", h.tick(1), 1);
        // A limit whose look fails is looked at again, before anything goes on.
        h = Hands.started("signal a;output o;limit 1/a>0{wait 1 s;set o 1;}then{set o 2;}");
        h.signal(0, 1000);
        h.tick(1);
        h.signal(0, 0);
        check.due("a fault of the limit", h.tick(1), 2);
        check.due("nothing went on", h.value(1), 0);
        check.due("its node", h.alarm(0, 1), 2);
        check.due("it is not passed", h.alarm(1, 1), -1);
        h.signal(0, -1000);
        h.hold(false);
        check.due("passed then", h.tick(1), 1);
        faultsEndTheWalk(check);
        check.due("its second block", h.value(1), 2000);
    }

    /** The walk of the second is over at a fault, and at a stop: nothing goes on, is looked at, or done behind it. */
    private static void faultsEndTheWalk(Check check) {
        BreweryHouse h = Hands.started("signal a;output o;par{limit 1/a>0{ramp o 8 in 4 s;}then{}}{limit a>0{wait 9 s;}then{}}");
        h.signal(0, 1000);
        h.tick(2);
        check.due("a quarter of the ramp", h.value(1), 2000);
        h.signal(0, 0);
        check.due("a fault of the first limit", h.tick(1), 2);
        check.due("the ramp does not go on", h.value(1), 2000);
        check.due("the second limit is not looked at", h.alarm(0, 2) * 10 + h.alarm(1, 2), 9);
        h.signal(0, 1000);
        h.hold(false);
        h.tick(1);
        check.due("three seconds behind its begin", h.value(1), 6000);
        check.due("the second limit stands", h.still(1), 16);
        // Two limits whose looks fail: the first is one fault, the second is not looked at.
        h = Hands.started("signal a;par{limit 1/a>0{limit 3/a>0{wait 9 s;}then{}}then{}}{limit 2/a>0{wait 9 s;}then{}}");
        h.signal(0, 1000);
        h.tick(1);
        h.signal(0, 0);
        h.tick(1);
        check.due("one fault", h.alarm(0, 1) * 10 + h.alarm(0, 2), 21);
        check.due("no other one", h.alarm(1, 1), -1);
        // Acts and waits of the sides behind it.
        String[] ends = {"stop;", "set o 1/a;", "wait 1 s/a;", "until 1/a=1;"};
        for (String end : ends) {
            h = Hands.house("tank 9\nvalve 0\n");
            Hands.take(h, "signal a;output o;par{wait 2 s;" + end + "}{wait 2 s;act 0;}{wait 4 s;act 1;wait 9 s;}");
            h.bind(0, 2, 1, 5, 0);
            h.bind(1, 2, 1, 6, 0);
            h.start();
            h.tick(2);
            check.due("behind the fault, " + end, h.tick(1), end.equals("stop;") ? 3 : 2);
            check.due("the act of the next side is not done, " + end, h.space(1, 4), 0);
            if (!end.equals("stop;")) {
                h.signal(0, 1000);
                h.hold(false);
                h.tick(1);
                check.due("it is done in the next second of the run, " + end, h.space(1, 4), 5);
                h.tick(1);
                check.due("and the other one 4 seconds behind its begin, " + end, h.space(1, 4), 6);
            }
        }
        // A block that was to be begun again does not stand as it did in the round before.
        h = Hands.started("signal a;output o;repeat 2{limit o+a<5{wait 9 s;}then{set o -9;}repeat 995{}}");
        h.tick(1);
        check.due("the wait stands", h.still(0), 7);
        h.signal(0, 9000);
        check.due("the block of the limit is the 1,001st", h.tick(1), 2);
        check.due("its node", h.alarm(1, 1) * 10 + h.alarm(1, 2), 82);
        check.due("nothing stands", h.still(0), -1);
        h.hold(false);
        h.tick(1);
        check.due("now the wait stands", h.still(0), 7);
    }

    private static void alarmsUpTo200(Check check) {
        BreweryHouse h = Hands.started("repeat 21{repeat 10{act 5;}wait 1 s;}");
        for (int i = 0; i < 19; i++) {
            h.tick(1);
        }
        check.due("190 alarms", h.alarm(189, 0), 18);
        check.due("not 191", h.alarm(190, 0), -1);
        h.tick(1);
        check.due("200 alarms", h.alarm(199, 0) * 100 + h.alarm(199, 2), 1911);
        check.due("not 201", h.alarm(200, 0), -1);
        h.tick(1);
        h.act(5);
        check.due("still 200", h.alarm(200, 0), -1);
        check.due("the last of them stays", h.alarm(199, 0), 19);
        check.due("the first of them stays", h.alarm(0, 0) * 10000 + h.alarm(0, 1) * 100 + h.alarm(0, 2), 211);
        h.start();
        check.due("none behind start()", h.alarm(0, 0), -1);
        h.act(5);
        check.due("from the first again", h.alarm(0, 0) * 10000 + h.alarm(0, 1) * 100 + h.alarm(0, 2), 210000 - 100 + 11);
        for (int what : new int[] {-1, 3, Integer.MIN_VALUE, Integer.MAX_VALUE}) {
            check.due("alarm(0, " + what + ")", h.alarm(0, what), -1);
        }
        for (int k : new int[] {-1, 1, 200, Integer.MIN_VALUE, Integer.MAX_VALUE}) {
            check.due("alarm(" + k + ", 0)", h.alarm(k, 0), -1);
        }
        // Before any start() they count from the object's begin; a refused start() leaves them.
        h = new BreweryHouse();
        h.tick(3);
        h.act(0);
        check.due("without a start()", h.alarm(0, 0), 3);
        check.due("refused", h.start(), false);
        check.due("it stays", h.alarm(0, 0), 3);
    }

    private static void starts(Check check) {
        check.due("no program", new BreweryHouse().start(), false);
        check.due("an empty program", Hands.program("").start(), false);
        check.due("names alone", Hands.program("signal a;output b;").start(), false);
        check.due("steps alone", Hands.program("step a{stop;}").start(), false);
        check.due("one statement", Hands.program("stop;").start(), true);
        BreweryHouse h = Hands.started("signal a;signal b;output o;set o 7;wait 9 s;");
        h.sense(1, 4, 0);
        h.signal(0, 5);
        h.tick(2);
        check.due("values", h.value(0) * 10000000 + h.value(1) * 10000 + h.value(2), 50000000 + 10000000 + 7000);
        check.due("from anew when it is on", h.start(), true);
        check.due("outputs and signals are 0, but for sensed ones", h.value(0) + h.value(1) + h.value(2), 1000);
        check.due("on", h.state(), 0);
        check.due("nothing was begun", h.still(0), -1);
        h.tick(1);
        check.due("from its begin", h.value(2), 7000);
        h.sense(1, 5, 0);
        check.due("not sensed any more: it stays", h.value(1), 2000);
        h.start();
        check.due("then it is 0, too", h.value(1), 0);
        for (String end : new String[] {"", "stop;", "hold;wait 1 s;"}) {
            h = Hands.started("output o;set o o+1;" + end);
            h.tick(1);
            check.due("from state " + h.state(), h.start(), true);
            check.due("output 0", h.value(0), 0);
            check.due("on", h.state(), 0);
            h.tick(1);
            check.due("from its begin", h.value(0), 1000);
        }
    }

    private static void lookingAtStill(Check check) {
        BreweryHouse h = Hands.started("signal a;output o;par{wait 9 s;}{until a=1;}{ramp o 1 in 9 s;}{ask a;}{set o 5;}");
        check.due("before the first second", h.still(0), -1);
        h.tick(1);
        int[] due = {1, 6, 10, 12, -1};
        for (int k = 0; k < due.length; k++) {
            check.due("still(" + k + ")", h.still(k), due[k]);
        }
        check.due("still(-1), far", h.still(-1) + h.still(Integer.MIN_VALUE) + h.still(Integer.MAX_VALUE), -3);
        h.hold(true);
        check.due("held", h.still(3), 12);
        h.stop();
        check.due("stopped", h.still(0), -1);
    }

    /** What is done again in the next round is begun anew. */
    private static void roundsBeginAnew(Check check) {
        BreweryHouse h = Hands.started("output o;repeat 2{ramp o 4 in 2 s;ramp o 0 in 2 s;}");
        long[] due = {0, 2000, 4000, 2000, 0, 2000, 4000, 2000, 0};
        for (int i = 0; i < due.length; i++) {
            h.tick(1);
            check.due("ramps in rounds, second " + i, h.value(0), due[i]);
        }
        check.due("two rounds", h.state(), 1);
        h = Hands.started("output o;repeat 2{wait 2 s;par{wait 1 s;set o o+1;}{set o o+10;}repeat 2{set o o+100;wait 1 s;}}");
        long[] sums = {0, 0, 10, 111, 211, 211, 211, 221, 322, 422, 422};
        for (int i = 0; i < sums.length; i++) {
            h.tick(1);
            check.due("rounds, second " + i, h.value(0), sums[i] * 1000);
        }
        check.due("all rounds", h.state(), 1);
        // A limit that was passed in one round is not in the next one; one that was not is looked at when it is begun.
        h = Hands.started("signal a;output o;repeat 3{limit a<5{wait 1 s;set o o+1;}then{set o o+10;wait 1 s;}}");
        h.tick(1);
        h.signal(0, 5000);
        h.tick(1);
        h.signal(0, 0);
        check.due("passed in the first round", h.value(1), 10000);
        h.tick(2);
        check.due("not in the second one", h.value(1), 11000);
        check.due("one alarm", h.alarm(1, 0), -1);
        h.signal(0, 5000);
        h.tick(1);
        check.due("passed in the third round", h.value(1), 21000);
    }

    /** A limit that stands no more, and was not begun again as a fault came first, is not looked at before. */
    private static void limitThatWasNotBegun(Check check) {
        // 1 repeat, block, limit, block, repeat, 994 blocks, block: the limit is the 1,001st.
        BreweryHouse h = Hands.started("signal a;repeat 2{limit a<5{}then{}repeat 994{}}");
        check.due("held", h.tick(1), 2);
        check.due("the limit was not begun", h.alarm(0, 1) * 10 + h.alarm(0, 2), 62);
        h.signal(0, 9000);
        h.hold(false);
        h.tick(1);
        check.due("it is begun, and passed", h.alarm(1, 1) * 10 + h.alarm(1, 2), 63);
        check.due("once", h.alarm(2, 2), -1);
    }

    /** 500 statements and blocks: the last of them does what it should. */
    private static void largestProgram(Check check) {
        String front = "signal a;output o;step e{" + Check.times("hold;", 98) + "}" + Check.times("do e;", 4) + Check.times("hold;", 98);
        String[] last = {"wait 2 s;", "until a>0;", "ramp o 4 in 2 s;", "ask a;", "set o 7;"};
        for (String text : last) {
            for (String before : new String[] {"set o 1;", ""}) {
                BreweryHouse h = new BreweryHouse();
                String all = front + (before.equals("") ? "hold;" : before) + text;
                check.due("500 with " + text, Check.read(h, 2, all) > 0, true);
                check.reads(new BreweryHouse(), 2, all + "hold;", -3 - all.length() - 5);
                h.start();
                // A hold holds when the walk is over; then it goes on.
                check.due("it stands, " + text, h.tick(1), text.startsWith("set") ? 1 : 2);
                h.hold(false);
                h.answer(5);
                h.signal(0, 5);
                h.tick(1);
                int begin = before.equals("") ? 0 : 1000;
                check.due("behind a second, " + text, h.value(1), text.startsWith("ramp") ? (begin + 4000) / 2 : text.startsWith("set") ? 7000 : begin);
                h.tick(1);
                check.due("it ends, " + text, h.state(), 1);
                check.due("behind two seconds, " + text, h.value(1), text.startsWith("ramp") ? 4000 : text.startsWith("set") ? 7000 : begin);
            }
        }
        String inBlock = front.substring(0, front.length() - 10);
        for (String text : new String[] {"repeat 2{set o o+1;}", "if a=0{set o 2;}", "repeat 2{wait 1 s;}"}) {
            BreweryHouse h = new BreweryHouse();
            check.due("500 with " + text, Check.read(h, 2, inBlock + "hold;" + text) > 0, true);
            check.due("501 with " + text, Check.read(new BreweryHouse(), 2, inBlock + "hold;hold;" + text) < 0, true);
            h.start();
            h.tick(1);
            h.hold(false);
            check.due("the last one was done, " + text, h.value(1), text.contains("set") ? 2000 : 0);
            h.tick(2);
            check.due("it ends, " + text, h.state(), 1);
        }
    }

    /** Forty blocks in one another: what is in the last one goes on, is seen, answered, passed. */
    private static void deepestProgram(Check check) {
        for (String around : new String[] {"{%}", "{repeat 1{%}}", "{par{}{%}}", "{if 1=2{}else{%}}", "{limit a<9{%}then{}}"}) {
            StringBuilder text = new StringBuilder("signal a;output o;step a0{ask a;limit a<5{ramp o 4 in 2 s;}then{}}");
            int blocks = around.equals("{%}") ? 37 : 18;
            for (int i = 1; i <= blocks; i++) {
                text.append("step a").append(i).append(around.replace("%", "do a" + (i - 1) + ";"));
            }
            BreweryHouse h = Hands.program(text + (around.equals("{%}") ? "repeat 1{do a37;}" : "repeat 1{repeat 1{do a18;}}"));
            h.start();
            h.tick(1);
            check.due("deep: the ask stands, " + around, h.still(0), 0);
            check.due("deep: it is answered, " + around, h.answer(1000), true);
            h.tick(2);
            check.due("deep: half of the ramp, " + around, h.value(1), 2000);
            h.signal(0, 6000);
            check.due("deep: the limit is passed, and all ends, " + around, h.tick(1), 1);
            check.due("deep: its alarm, " + around, h.alarm(0, 2), 3);
        }
    }

    private static void heldWays(Check check) {
        BreweryHouse h = Hands.house("tank 9\ntank 9\npipe 0 1 1\n");
        Hands.take(h, "wait 9 s;");
        h.fill(0, 1, 9);
        h.start();
        h.hold(true);
        check.due("a way is opened by hand while it is held", Hands.open(h, 0, 1, 1), 0);
        check.due("hold(true) again is refused", h.hold(true), false);
        check.due("the way stays", h.way(0, 0), 0);
        h.tick(1);
        check.due("a held run closes no ways", h.way(0, 0), 0);
        check.due("it goes on", h.hold(false), true);
        check.due("going on closes no ways", h.way(0, 0), 0);
        h.tick(1);
        check.due("two litres have moved", h.space(0, 1), 7);
        h.tick(9);
        check.due("ended", h.state(), 1);
        check.due("its end closes no ways", h.way(0, 0), 0);
        check.due("stop of an ended one is refused", h.stop(), false);
        check.due("and closes no ways", h.way(0, 0), 0);
    }

    /** Ways that are closed with a run: their valves are shut, not as they stood before. */
    private static void closedWays(Check check) {
        Twins.Deed[] ends = {h -> h.hold(true), h -> h.stop(), h -> h.start(), h -> Check.read(h, 2, "stop;"), h -> { h.signal(0, 1000); h.tick(1); },
            h -> { h.signal(0, 2000); h.tick(1); }, h -> { h.signal(0, 3000); h.tick(1); }};
        for (int i = 0; i < ends.length; i++) {
            BreweryHouse h = Hands.house("tank 9\ntank 9\nvalve 1\nvalve 6\ntank 9\ntank 9\npipe 0 2 1\npipe 2 3 1\npipe 3 1 1\npipe 4 5 1\n");
            Hands.take(h, "signal a;output o;until a>0;if a=1{hold;wait 1 s;}else{if a=2{stop;}else{set o 1/0;}}");
            h.fill(0, 1, 9);
            h.fill(4, 1, 9);
            Hands.turn(h, 2, 9);
            Hands.turn(h, 3, 9);
            h.start();
            h.tick(1);
            check.due("two ways are open", Hands.open(h, 0, 1, 1) + Hands.open(h, 4, 5, 1), 0);
            check.due("their valves", h.space(2, 4) * 10 + h.space(3, 4), 1);
            ends[i].on(h);
            check.due("no way is open, " + i, h.way(0, 0), -1);
            check.due("their valves are shut, " + i, h.space(2, 4) * 10 + h.space(3, 4), 20);
            check.due("nothing moved, " + i, h.space(0, 1) + h.space(4, 1), 18);
            check.due("they can be opened again, " + i, Hands.open(h, 0, 1, 1) + Hands.open(h, 4, 5, 1), 0);
        }
    }

    private static void emptyBlocks(Check check) {
        BreweryHouse h = Hands.started("step e{}par{}{}if 1=1{}if 1=2{}else{}repeat 3{}limit 1=1{}then{}limit 1=2{}then{}do e;");
        check.due("all end at once", h.tick(1), 1);
        check.due("one limit was passed", h.alarm(0, 2), 3);
        check.due("one alone", h.alarm(1, 2), -1);
    }
}
