/** Promises 1 to 30: the numbers that calls take and those that they refuse, and that a refused call leaves all as it was. */
public final class CallEdgesTest {
    private static final int MIN = Integer.MIN_VALUE;
    private static final int MAX = Integer.MAX_VALUE;

    /** A house in which much goes on: a way is open, a row is latched, the run waits, asks and ramps, alarms are told. */
    private static final Twins.Deed BUSY = h -> {
        Check.read(h, 0, "tank 90\ntank 90\ntank 9\nvalve 0\npump\npipe 0 3 2\npipe 3 1 2\npipe - 2 1\n");
        Check.read(h, 1, "bar a4 when not c0 for 1 latched;bar a5 when c1;");
        Check.read(h, 2, "signal p;signal q;output o;output v;step g{wait 9 s;}ask p;par{do g;}{ask q;set v 3;}{ramp o 9 in 9 s;}act 9;");
        h.may(1, 2);
        h.need(1, 3, 2);
        h.lasts(2, 50);
        h.bind(0, 0, 0, 1, 2);
        h.bind(1, 4, 2, 0, 0);
        h.bind(4, 2, 3, 1, 0);
        h.fill(0, 1, 80);
        h.fill(2, 1, 1);
        h.act(1);
        h.act(0);
        h.sense(0, 0, 0);
        h.watch(1, 4, 0, 2);
        h.start();
        h.tick(1);
        h.answer(5000);
        h.tick(1);
        h.act(4);
        h.pass(2, 1, 2, 30);
    };

    /** What shows what was told: conditions, liquids that meet, needs, bindings. */
    private static final Twins.Deed SHOWS = h -> {
        h.act(0);
        h.act(1);
        h.act(5);
        h.fill(2, 3, 1);
        h.answer(7000);
    };

    public static void main(String[] args) {
        Check check = new Check();
        Twins twins = new Twins(check, BUSY, SHOWS);
        tape(check);
        bytesOfTexts(check);
        firstBytes(check);
        noTexts(twins);
        wrongTexts(twins);
        rightTexts(check);
        tolds(twins);
        liquidPairs(check);
        sensing(check, twins);
        runs(twins);
        rows(twins);
        looks(twins);
        writing(check);
        check.done();
    }

    private static void tape(Check check) {
        BreweryHouse h = new BreweryHouse();
        for (int i = 1; i <= 201; i++) {
            check.due("feed " + i, h.feed(0x20202020, 0x20202020, 0x20202020, 0x20202020, 0x20202020), 20 * i);
        }
        check.due("4,040 bytes would be too many", h.feed(0x3f3f3f3f, 0, 0, 0, 0), -2);
        check.due("what was there stays", h.end(1, 4000), 0);
        check.due("the tape is empty", h.feed(0, 0, 0, 0, 0), 20);
        check.due("and empty again", h.end(0, 0), 0);
        check.due("end with nothing on the tape", h.end(0, 1), -1);
        // 4,020 bytes are on the tape, 4,000 of them are a text at most.
        for (int i = 1; i <= 200; i++) {
            h.feed(0x20202020, 0x20202020, 0x20202020, 0x20202020, 0x20202020);
        }
        check.due("4,001 bytes, there are 4,000", h.end(1, 4001), -1);
    }

    private static void bytesOfTexts(Check check) {
        // Each number's highest byte comes first; every one of five numbers counts.
        BreweryHouse h = new BreweryHouse();
        h.feed('t' << 24 | 'a' << 16 | 'n' << 8 | 'k', ' ' << 24 | '1' << 16 | '2' << 8 | '\n', 'p' << 24 | 'u' << 16 | 'm' << 8 | 'p',
                '\n' << 24 | 't' << 16 | 'a' << 8 | 'n', 'k' << 24 | ' ' << 16 | '9' << 8 | '\n');
        check.due("20 bytes", h.end(0, 20), 3);
        String text = "tank 12\npump\ntank 9\n";
        for (int i = 0; i < 20; i++) {
            check.due("byte " + i, h.write(i), text.charAt(i));
        }
        // Bytes behind the first n do not count, whatever they are.
        for (int other : new int[] {0, 128, 255, 'x'}) {
            h.feed('p' << 24 | 'u' << 16 | 'm' << 8 | 'p', '\n' << 24 | other << 16 | other << 8 | other, -1, -1, 0);
            check.due("5 bytes, then " + other, h.end(0, 5), 1);
        }
        // A byte 0, or above 127, anywhere in the first n: no text. 1 and 127 are bytes of texts, though of no words.
        for (int place = 0; place < 8; place++) {
            for (int value : new int[] {0, 1, 127, 128, 200, 255}) {
                int shift = 24 - 8 * (place % 4);
                int word = 0x20202020 & ~(255 << shift) | value << shift;
                h.feed(place < 4 ? word : 0x20202020, place < 4 ? 0x20202020 : word, 0, 0, 0);
                int due = value == 0 || value > 127 ? -1 : -3 - place;
                check.due("byte " + value + " at " + place, h.end(2, 8), due);
            }
        }
        check.due("what was there stays", h.write(0), 'p');
    }

    /** The first n bytes are the text, whatever stands behind them: as if nothing did. */
    private static void firstBytes(Check check) {
        String[] texts = {"tank 12\nvalve 3\npump\npipe 0 12 100\n", "bar a12 a3 when not c12 or (c1)for 123 latched;",
            "output abc l;set abc 12.345 l;wait 12 min;step"};
        for (int kind = 0; kind < 3; kind++) {
            for (int n = 0; n <= texts[kind].length(); n++) {
                BreweryHouse whole = new BreweryHouse();
                Check.feed(whole, texts[kind] + texts[kind]);
                int due = Check.read(new BreweryHouse(), kind, texts[kind].substring(0, n));
                check.due("kind " + kind + ", the first " + n + " bytes", whole.end(kind, n), due);
            }
        }
        BreweryHouse h = new BreweryHouse();
        Check.feed(h, "tank 12\n");
        check.due("tank 1", h.end(0, 6), -3 - 6);
        Check.feed(h, "bar a0 when c0 for 36000;");
        check.due("bar .. for 3600", h.end(1, 23), -3 - 6);
        Check.feed(h, "stop;");
        check.due("stop", h.end(2, 4), -3 - 4);
        Check.feed(h, "stop;x");
        check.due("stop;", h.end(2, 5), 1);
        Check.feed(h, "act 12;");
        check.due("act 1", h.end(2, 5), -3 - 5);
    }

    private static void noTexts(Twins twins) {
        Twins.Deed fed = h -> h.feed(0x20202020, 0x20202020, 0x20202020, 0x20202020, 0x20202020);
        for (int kind : new int[] {-1, 3, MIN, MAX}) {
            twins.refused("end(" + kind + ", 20)", fed, h -> h.end(kind, 20), -1);
            twins.refused("end(" + kind + ", 0)", fed, h -> h.end(kind, 0), -1);
        }
        for (int kind = 0; kind < 3; kind++) {
            int k = kind;
            for (int n : new int[] {-1, 21, 4001, MIN, MAX}) {
                twins.refused("end(" + kind + ", " + n + ")", fed, h -> h.end(k, n), -1);
                // The tape is empty then.
                twins.refused("feed behind end(" + kind + ", " + n + ")", fed, h -> h.end(k, n) + h.feed(0, 0, 0, 0, 0), 19);
            }
        }
    }

    private static void wrongTexts(Twins twins) {
        String[][] wrong = {{"0", "tank 5\ntank 0\n", "13"}, {"0", "x", "0"}, {"0", "tank 5", "6"}, {"0", "valve 1\npipe 0 1 5\n", "18"},
            {"1", "bar a0 when not c0;bar", "7"}, {"1", "bar a0 when not c0 for 3601;", "6"}, {"1", "x", "0"},
            {"2", "signal a;output b;set b 1;stop", "30"}, {"2", "signal a;set a 1;", "13"}, {"2", "?", "0"}, {"2", "step a{}do a;}", "13"}};
        for (String[] w : wrong) {
            twins.refused("wrong text " + w[1].replace("\n", "\\n"), h -> Check.read(h, Integer.parseInt(w[0]), w[1]), -3 - Integer.parseInt(w[2]));
        }
    }

    /** What a new plant, new rows, a new program leave, and what they do not. */
    private static void rightTexts(Check check) {
        BreweryHouse h = new BreweryHouse();
        BUSY.on(h);
        check.due("busy: on, a way is open", h.state() * 10 + h.way(0, 2), 2);
        check.reads(h, 1, "bar a4 when c0;bar a5 when c1;bar a6 when c1;", 3);
        check.due("new rows: the run is on, the way is open", h.state() * 10 + h.way(0, 2), 2);
        check.due("new rows begin anew", h.row(1, 0) + h.row(1, 1) + h.row(2, 2), 0);
        check.due("conditions stay: c1 is not on yet", h.row(2, 3), 0);
        check.reads(h, 2, "signal a;output b;stop;", 1);
        check.due("new program: no run, no way", h.state() * 10 + h.way(0, 2), 39);
        check.due("new program: valves are shut", h.space(3, 4), 0);
        check.due("new program: values are 0", h.value(0) + h.value(1), 0);
        check.due("new program: litres stay", h.space(0, 1), 76);
        check.due("new program: rows stay", h.row(3, 0), 0);
        check.due("new program: alarms stay", h.alarm(0, 2), 12);
        h.tick(1);
        check.due("new program: nothing is sensed", h.value(0), 0);
        h.start();
        h.hold(true);
        check.reads(h, 0, "tank 90\nvalve 0\n", 2);
        check.due("new plant: no run", h.state(), 4);
        check.due("new plant: it cannot go on", h.hold(false), false);
        check.due("new plant: the program stays", h.start(), true);
        check.due("new plant: bindings stay", h.act(4), 1);
        check.due("new plant: empty", h.space(0, 0) + h.space(0, 1) + h.space(0, 2) + h.space(0, 3), 0);
        // How many there are: things, rows, statements.
        check.reads(h, 0, "pipe - - 1\n", 0);
        check.reads(h, 0, "pump\npipe 0 - 1\npump\n", 2);
        check.reads(h, 1, "bar a0 when c0;", 1);
        check.reads(h, 2, "step a{stop;par{hold;}{}}do a;", 4);
        check.reads(h, 2, "", 0);
        check.due("an empty program: no start", h.start(), false);
    }

    private static void tolds(Twins twins) {
        int[][] pairs = {{0, 1}, {1, 0}, {15, 1}, {1, 15}, {-1, 2}, {2, -1}, {0, 0}, {15, 15}, {MIN, 1}, {1, MAX}, {33, 1}, {1, 33}, {1, 1}, {14, 14}, {1, 2}, {2, 1}};
        for (int[] p : pairs) {
            twins.refused("may(" + p[0] + ", " + p[1] + ")", h -> h.may(p[0], p[1]) ? 1 : 0, 0);
        }
        int[][] needs = {{0, 1, 1}, {1, 0, 1}, {15, 1, 1}, {1, 15, 1}, {1, 3, -1}, {1, 3, 6}, {MIN, 3, 0}, {1, MAX, 0}, {1, 3, MIN}, {1, 3, MAX}, {-1, 3, 0}};
        for (int[] n : needs) {
            twins.refused("need(" + n[0] + ", " + n[1] + ", " + n[2] + ")", h -> h.need(n[0], n[1], n[2]) ? 1 : 0, 0);
        }
        int[][] lasts = {{0, 1}, {6, 1}, {-1, 1}, {2, -1}, {2, 1000001}, {MIN, 1}, {MAX, 1}, {2, MIN}, {2, MAX}};
        for (int[] l : lasts) {
            twins.refused("lasts(" + l[0] + ", " + l[1] + ")", h -> h.lasts(l[0], l[1]) ? 1 : 0, 0);
        }
        long[][] fills = {{-1, 1, 1}, {3, 1, 1}, {4, 1, 1}, {5, 1, 1}, {8, 1, 1}, {0, 0, 1}, {0, 15, 1}, {0, 1, 0}, {0, 1, -1}, {0, 1, 100001},
            {0, 1, 87}, {0, 2, 1}, {2, 1, 1}, {2, 14, 1}, {1, 3, 1}, {0, 1, Long.MIN_VALUE}, {0, 1, Long.MAX_VALUE}, {MIN, 1, 1}, {MAX, 1, 1}};
        for (long[] f : fills) {
            twins.refused("fill(" + f[0] + ", " + f[1] + ", " + f[2] + ")", h -> h.fill((int) f[0], (int) f[1], f[2]) ? 1 : 0, 0);
        }
        int[][] binds = {{-1, 4, 0, 0, 0}, {32, 4, 0, 0, 0}, {0, -1, 0, 1, 1}, {0, 5, 0, 1, 1}, {0, 0, 0, 1, 0}, {0, 0, 0, 1, 101}, {0, 2, 3, -1, 1}, {0, 2, 3, 10, 1},
            {1, 3, 2, 0, 1}, {1, 3, 2, 6, 1}, {MIN, 4, 0, 0, 0}, {MAX, 4, 0, 0, 0}, {1, MIN, 0, 0, 0}, {1, MAX, 0, 0, 0}};
        for (int[] b : binds) {
            twins.refused("bind(" + b[0] + ", " + b[1] + ", .., " + b[3] + ", " + b[4] + ")", h -> h.bind(b[0], b[1], b[2], b[3], b[4]) ? 1 : 0, 0);
        }
        int[][] watches = {{-1, 4}, {16, 4}, {1, -1}, {1, 6}, {0, -1}, {0, 6}, {MIN, 4}, {MAX, 4}, {1, MIN}, {1, MAX}};
        for (int[] w : watches) {
            twins.refused("watch(" + w[0] + ", " + w[1] + ")", h -> h.watch(w[0], w[1], 0, w[0] == 1 ? Long.MAX_VALUE : 0) ? 1 : 0, 0);
        }
    }

    /** All pairs of two different liquids: new once, either way round. */
    private static void liquidPairs(Check check) {
        BreweryHouse h = new BreweryHouse();
        for (int a = 0; a <= 15; a++) {
            for (int b = 0; b <= 15; b++) {
                boolean due = a >= 1 && b <= 14 && a < b;
                check.due("may(" + a + ", " + b + ")", h.may(a, b), due);
            }
        }
    }

    private static void sensing(Check check, Twins twins) {
        int[][] senses = {{-1, 4}, {2, 4}, {3, 4}, {4, 4}, {5, 4}, {40, 4}, {0, -1}, {0, 6}, {1, -1}, {1, 6}, {MIN, 4}, {MAX, 4}, {1, MIN}, {1, MAX}};
        for (int[] s : senses) {
            twins.refused("sense(" + s[0] + ", " + s[1] + ")", h -> h.sense(s[0], s[1], 1) ? 1 : 0, 0);
        }
        for (int name : new int[] {-1, 2, 3, 4, 5, 40, MIN, MAX}) {
            twins.refused("signal(" + name + ")", h -> h.signal(name, 77) ? 1 : 0, 0);
        }
        // Each what, for each x around the edges; -1 thousandth where there is no such x.
        String plant = "tank 100000\nvalve 2\npump\npipe 0 1 3\n";
        long[][] due = {{0, -1, -1}, {0, 0, 100000000}, {0, 1, -1}, {0, 2, -1}, {0, 3, -1}, {0, 4, -1}, {1, -1, -1}, {1, 0, 14000}, {1, 3, 0}, {1, 4, -1},
            {2, -1, -1}, {2, 0, -1}, {2, 1, 9000}, {2, 2, -1}, {2, 3, -1}, {2, 4, -1}, {3, -1, 0}, {3, 99, 0}, {4, -1, 0}, {4, 99, 0},
            {0, MIN, -1}, {0, MAX, -1}, {1, MIN, -1}, {1, MAX, -1}, {2, MIN, -1}, {2, MAX, -1}, {3, MIN, 0}, {4, MAX, 0}};
        for (long[] d : due) {
            BreweryHouse h = Hands.house(plant);
            Hands.take(h, "signal a;signal b;");
            h.fill(0, 14, 100000);
            Hands.turn(h, 1, 9);
            h.signal(0, 55);
            h.signal(1, 56);
            check.due("sense(0, " + d[0] + ", " + d[1] + ")", h.sense(0, (int) d[0], (int) d[1]), true);
            check.due("from the next second on", h.value(0), 55);
            h.tick(0);
            check.due("no second", h.value(0), 55);
            h.tick(1);
            check.due("sensed " + d[0] + " of " + d[1], h.value(0), d[2]);
            check.due("the other signal", h.value(1), 56);
            check.due("not any more", h.sense(0, 5, (int) d[1]), true);
            check.due("it stays", h.value(0), d[2]);
            h.signal(0, 57);
            h.tick(1);
            check.due("and is not sensed", h.value(0), 57);
        }
        check.due("no program", new BreweryHouse().sense(0, 4, 0) || new BreweryHouse().signal(0, 1), false);
        BreweryHouse h = Hands.program("signal a;");
        for (long value : new long[] {Long.MIN_VALUE, -1, 0, 1, Long.MAX_VALUE}) {
            check.due("signal " + value, h.signal(0, value) && h.value(0) == value, true);
        }
        for (int name : new int[] {-1, 1, 40, MIN, MAX}) {
            check.due("value(" + name + ")", h.value(name), 0);
        }
    }

    private static void runs(Twins twins) {
        for (int seconds : new int[] {-1, 601, MIN, MAX}) {
            twins.refused("tick(" + seconds + ")", h -> h.tick(seconds), -1);
        }
        twins.refused("tick(0)", h -> h.tick(0), 0);
        twins.refused("hold(false) when it is on", h -> h.hold(false) ? 1 : 0, 0);
        twins.refused("hold(true) when it is held", h -> h.hold(true), h -> h.hold(true) ? 1 : 0, 0);
        twins.refused("answer when it is held", h -> h.hold(true), h -> h.answer(9) ? 1 : 0, 0);
        twins.refused("answer when all are answered", h -> h.answer(8), h -> h.answer(9) ? 1 : 0, 0);
        twins.refused("hold(true) when it is stopped", h -> h.stop(), h -> h.hold(true) ? 1 : 0, 0);
        twins.refused("hold(false) when it is stopped", h -> h.stop(), h -> h.hold(false) ? 1 : 0, 0);
        twins.refused("stop when it is stopped", h -> h.stop(), h -> h.stop() ? 1 : 0, 0);
        twins.refused("answer when it is stopped", h -> h.stop(), h -> h.answer(9) ? 1 : 0, 0);
        twins.refused("start without statements", h -> Check.read(h, 2, "signal a;step b{stop;}"), h -> h.start() ? 1 : 0, 0);
        for (int k : new int[] {-1, 32, MIN, MAX}) {
            twins.refused("act(" + k + ")", h -> h.act(k), -1);
        }
    }

    private static void rows(Twins twins) {
        int[][] passes = {{0, 1, 2, 5, -1}, {3, 1, 2, 5, -1}, {-1, 1, 2, 5, -1}, {1, 0, 2, 5, -2}, {1, 1, 1000, 5, -2}, {1, 5, 5, 5, -2}, {1, 1, 2, 0, -3},
            {1, 1, 2, 3601, -3}, {2, 1, 2, 5, -4}, {MAX, 1, 2, 5, -1}, {MIN, 1, 2, 5, -1}};
        for (int[] p : passes) {
            twins.refused("pass(" + p[0] + ", " + p[1] + ", " + p[2] + ", " + p[3] + ")", h -> h.pass(p[0], p[1], p[2], p[3]), p[4]);
        }
        for (int row : new int[] {-1, 0, 1, 2, 3, MIN, MAX}) {
            twins.refused("reset(" + row + ")", h -> h.reset(row) ? 1 : 0, 0);
        }
    }

    /** Looking changes nothing. */
    private static void looks(Twins twins) {
        int[] numbers = {MIN, -1, 0, 1, 50, MAX};
        twins.refused("looking", h -> {
            for (int a : numbers) {
                for (int what : new int[] {MIN, 0, 1, MAX}) {
                    h.row(a, what);
                    h.alarm(a, what);
                    h.way(a, what);
                    h.space(a, what);
                }
                h.bars(a);
                h.still(a);
                h.write(a);
                h.danger(a);
                h.value(a);
            }
            h.state();
            return h.second();
        }, 2);
    }

    private static void writing(Check check) {
        BreweryHouse h = new BreweryHouse();
        check.due("no plant", h.write(0), -1);
        String[][] texts = {{"pipe - - 1\ntank 1\npipe 0 - 200\npump\n", "tank 1\npump\npipe - - 1\npipe 0 - 200\n"},
            {"tank 10\ntank 100\ntank 1000\ntank 10000\ntank 100000\ntank 9\ntank 99\n", "tank 10\ntank 100\ntank 1000\ntank 10000\ntank 100000\ntank 9\ntank 99\n"},
            {"valve 7\nvalve 0\npipe 1 0 10\npipe 0 1 99\n", "valve 7\nvalve 0\npipe 1 0 10\npipe 0 1 99\n"}, {"", ""},
            {Check.times("pump\n", 20) + "pipe 19 10 100\npipe 9 0 101\n", Check.times("pump\n", 20) + "pipe 19 10 100\npipe 9 0 101\n"}};
        for (String[] t : texts) {
            Check.read(h, 0, t[0]);
            for (int i = 0; i < t[1].length(); i++) {
                check.due("byte " + i + " of " + t[1].replace("\n", "\\n"), h.write(i), t[1].charAt(i));
            }
            for (int i : new int[] {-1, t[1].length(), t[1].length() + 1, 4000, MIN, MAX}) {
                check.due("write(" + i + ")", h.write(i), -1);
            }
        }
        // The longest plant: 20 tanks and 24 pipes.
        BreweryHouse longest = new BreweryHouse();
        String text = Check.times("tank 100000\n", 20) + Check.times("pipe 19 18 200\n", 24);
        Check.read(longest, 0, text);
        for (int i = 300; i < text.length(); i++) {
            check.due("byte " + i + " of the longest", longest.write(i), text.charAt(i));
        }
        check.due("behind the longest", longest.write(text.length()), -1);
    }
}
