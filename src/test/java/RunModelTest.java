import java.util.List;

/** Promises 3, 10, 13 to 17 and 22 to 25 against a plain walk, over many programs. */
public final class RunModelTest {
    private static long seed = 151126;
    private static final int[] HITS = new int[40];

    private final ProgramMaker maker;
    private final boolean faulty;

    private RunModelTest(boolean faulty) {
        this.faulty = faulty;
        maker = new ProgramMaker(RunModelTest::random, faulty);
    }

    private static int random(int n) {
        seed = seed * 6364136223846793005L + 1442695040888963407L;
        return (int) ((seed >>> 33) % n);
    }

    public static void main(String[] args) {
        Check check = new Check();
        int programs = args.length > 0 ? Integer.parseInt(args[0]) : 3000;
        for (int i = 0; i < programs; i++) {
            new RunModelTest(i % 2 == 1).run(check, "program " + i + " ");
        }
        for (int hit : new int[] {1, 2, 3, 11, 20, 21, 22, 23, 30, 31, 32}) {
            check.due("kind " + hit + " is met often", HITS[hit] > 20, true);
        }
        check.done();
    }

    private void run(Check check, String title) {
        if (!maker.fits()) {
            return;
        }
        BreweryHouse house = new BreweryHouse();
        String program = maker.text.toString();
        int got = Check.read(house, 2, program);
        check.due(title + "\"" + program.replace("\n", "\\n") + "\"", got, maker.answer());
        if (got < 0) {
            return;
        }
        RunModel model = null;
        for (int go = 0; go < 2; go++) {
            model = new RunModel(maker.main, new long[maker.names.size()], house.second());
            check.due(title + "start", house.start(), true);
            for (int i = 0; i < 25; i++) {
                drive(check, title + "go " + go + " second " + i + " ", house, model);
            }
        }
        for (int[] alarm : model.alarms) {
            HITS[alarm[2]]++;
        }
        HITS[20 + model.state]++;
    }

    private void drive(Check check, String title, BreweryHouse house, RunModel model) {
        if (faulty) {
            // A second of a fault now and then, behind which the run goes on.
            long by = random(4) == 0 ? 0 : 100 + random(3) * 400;
            check.due(title + "what is divided by", house.signal(0, by), true);
            model.values[0] = by;
            if (model.state == 2 && random(3) > 0) {
                check.due(title + "goes on", house.hold(false), true);
                model.state = 0;
            }
        }
        int pick = random(10);
        int name = maker.names.isEmpty() ? 0 : random(maker.names.size());
        long value = random(5) * 1000L - 1000 + random(3) * 250;
        if (pick < 3) {
            check.due(title + "signal", house.signal(name, value), maker.isSignal(name));
            if (maker.isSignal(name)) {
                model.values[name] = value;
            }
        } else if (pick < 5) {
            answer(check, title, house, model, value);
        } else if (pick < 8) {
            boolean on = pick == 5 && random(3) == 0;
            check.due(title + "hold " + on, house.hold(on), model.state == (on ? 0 : 2));
            if (model.state == (on ? 0 : 2)) {
                model.state = on ? 2 : 0;
                HITS[on ? 31 : 32]++;
            }
        }
        check.due(title + "tick", house.tick(1), tickOf(model));
        compare(check, title, house, model, maker);
    }

    /** Holds all that calls tell of a run against the model. */
    static void compare(Check check, String title, BreweryHouse house, RunModel model, ProgramMaker maker) {
        check.due(title + "state", house.state(), model.state);
        for (int i = 0; i < maker.names.size(); i++) {
            check.due(title + "value " + i, house.value(i), maker.kinds.get(i) == 2 ? 0 : model.values[i]);
        }
        List<RunModel.Frame> still = model.still();
        for (int i = 0; i <= still.size(); i++) {
            check.due(title + "still " + i, house.still(i), i < still.size() ? still.get(i).node.number : -1);
        }
        compareAlarms(check, title, house, model.alarms);
    }

    static void compareAlarms(Check check, String title, BreweryHouse house, List<int[]> alarms) {
        for (int i = Math.max(0, alarms.size() - 12); i <= alarms.size() && i < 200; i++) {
            for (int what = 0; what < 3; what++) {
                check.due(title + "alarm " + i, house.alarm(i, what), i < alarms.size() ? alarms.get(i)[what] : -1);
            }
        }
    }

    private static int tickOf(RunModel model) {
        model.tick();
        return model.state;
    }

    private static void answer(Check check, String title, BreweryHouse house, RunModel model, long value) {
        boolean due = model.answer(value);
        HITS[30] += due ? 1 : 0;
        check.due(title + "answer", house.answer(value), due);
    }
}
