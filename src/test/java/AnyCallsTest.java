/** No call throws or fails to end, for any arguments in any state; the same calls give the same answers. */
public final class AnyCallsTest {
    private long seed;
    private long answers;
    private BreweryHouse house;

    private static final String[][] TEXTS = {
        {"tank 100\ntank 50\ntank 60\nvalve 0\nvalve 0\nvalve 4\nvalve 2\npump\npipe 0 3 4\npipe 3 7 2\npipe 7 5 3\npipe 5 1 2\n"
                + "pipe 2 4 5\npipe 4 5 1\npipe 5 6 2\npipe 6 1 3\npipe 6 2 9\n",
            "tank 9\ntank 9\nvalve 6\npipe 0 2 200\npipe 2 1 1\npipe 0 1 7\npipe - - 3\n"},
        {"bar a0 a1 when c0 for 2 latched; bar a1 a2 when not c1 and (c0 or c2);", "bar a3 when not (c1 and not c4) or c5 latched;"},
        {"signal p l;signal q;output o l;step g{act 0;wait 2 s;act 1;}do g;set o p + 1 l;repeat 2{do g;}if q < 3{ask q;}else{hold;}"
                + "ramp o 0 l in 3 s;stop;",
            "signal p;output o;par{set o 1 / p;}{wait 1 s;set o 5;}limit p < 3{until p = 9;}then{set o 7;}repeat 2000{set o o + 1;act 3;}",
            "output a;step b{par{ramp a 5 in 9 s;}{limit a < 4{wait 99 s;}then{act 2;act 3;}}}repeat 99999{do b;do b;}"},
    };

    private int random(int n) {
        seed = seed * 6364136223846793005L + 1442695040888963407L;
        return (int) ((seed >>> 33) % n);
    }

    private int number() {
        int pick = random(10);
        if (pick == 0) {
            return new int[] {Integer.MIN_VALUE, Integer.MAX_VALUE, -1, 1000000, 65536}[random(5)];
        }
        return random(pick < 7 ? 6 : 40) - (pick == 1 ? 3 : 0);
    }

    private long longNumber() {
        int pick = random(12);
        return pick == 0 ? Long.MIN_VALUE : pick == 1 ? Long.MAX_VALUE : pick < 5 ? number() * 1000L : number();
    }

    private long text() {
        int kind = random(3);
        StringBuilder text = new StringBuilder(TEXTS[kind][random(TEXTS[kind].length)]);
        int changes = random(3) == 0 ? 1 + random(3) : 0;
        for (int i = 0; i < changes; i++) {
            int at = random(text.length());
            if (random(2) == 0) {
                text.setCharAt(at, (char) (random(140)));
            } else {
                text.deleteCharAt(at);
            }
        }
        return Check.read(house, kind, text.toString());
    }

    private long call() {
        switch (random(30)) {
            case 0:
                return house.feed(number(), number(), number(), number(), number());
            case 1:
                return house.end(number(), number());
            case 2:
                return random(4) == 0 ? text() : 0;
            case 3:
                return house.fill(number(), number(), longNumber()) ? 1 : 0;
            case 4:
                return house.may(number(), number()) ? 1 : 0;
            case 5:
                return house.need(number(), number(), number()) ? 1 : 0;
            case 6:
                return house.lasts(number(), number()) ? 1 : 0;
            case 7:
                return house.sense(number(), number(), number()) ? 1 : 0;
            case 8:
                return house.watch(number(), number(), number(), longNumber()) ? 1 : 0;
            case 9:
                return house.signal(number(), longNumber()) ? 1 : 0;
            case 10:
            case 11:
                return house.bind(random(6), number(), number(), number(), number()) ? 1 : 0;
            case 12:
            case 13:
                return house.act(number());
            case 14:
                return house.start() ? 1 : 0;
            case 15:
            case 16:
                return house.tick(random(30) == 0 ? 600 : number());
            default:
                return look();
        }
    }

    private long look() {
        switch (random(16)) {
            case 0:
                return house.answer(longNumber()) ? 1 : 0;
            case 1:
                return house.hold(random(3) == 0) ? 1 : 0;
            case 2:
                return random(4) == 0 && house.stop() ? 1 : 0;
            case 3:
                return house.pass(number(), number(), number(), number());
            case 4:
                return house.reset(number()) ? 1 : 0;
            case 5:
                return house.bars(number());
            case 6:
                return house.row(number(), number());
            case 7:
                return house.state();
            case 8:
                return house.value(number());
            case 9:
                return house.still(number());
            case 10:
                return house.alarm(number(), number());
            case 11:
                return house.way(number(), number());
            case 12:
                return house.space(number(), number());
            case 13:
                return house.danger(number());
            case 14:
                return house.write(number());
            default:
                return house.second();
        }
    }

    private long run(int number) {
        seed = number;
        answers = 0;
        house = new BreweryHouse();
        for (int kind = 0; kind < 3; kind++) {
            Check.read(house, kind, TEXTS[kind][random(TEXTS[kind].length)]);
        }
        for (int i = 0; i < 350; i++) {
            answers = answers * 31 + call();
        }
        return answers;
    }

    public static void main(String[] args) {
        Check check = new Check();
        int runs = args.length > 0 ? Integer.parseInt(args[0]) : 2000;
        for (int i = 0; i < runs; i++) {
            check.due("run " + i, new AnyCallsTest().run(i), new AnyCallsTest().run(i));
        }
        check.done();
    }
}
