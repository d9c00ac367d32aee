import java.util.ArrayList;
import java.util.List;

/** Promises 3 to 28 together: plants, rows and programs that work on one another, against the plain models. */
public final class WholeModelTest {
    private static long seed = 161126;
    private static final int[] ALARMS = new int[20];
    private static final int[] STATES = new int[5];
    private static int barred;
    private static int flowing;

    private final Check check;
    private final BreweryHouse house = new BreweryHouse();
    private final WholeModel model = new WholeModel();
    private String title;

    private WholeModelTest(Check check) {
        this.check = check;
    }

    private static int random(int n) {
        seed = seed * 6364136223846793005L + 1442695040888963407L;
        return (int) ((seed >>> 33) % n);
    }

    public static void main(String[] args) {
        Check check = new Check();
        int houses = args.length > 0 ? Integer.parseInt(args[0]) : 200;
        for (int i = 0; i < houses; i++) {
            new WholeModelTest(check).run(i);
        }
        for (int kind : new int[] {1, 3, 11, 12, 13, 14, 15}) {
            check.due("alarms of kind " + kind + " are met", ALARMS[kind] > 5, true);
        }
        for (int state = 0; state < 5; state++) {
            check.due("state " + state + " is met", STATES[state] > 100, true);
        }
        check.due("rows bar acts", barred > 1000, true);
        check.due("ways are open while a run is on", flowing > 100, true);
        check.done();
    }

    private void run(int number) {
        title = "house " + number + " ";
        newPlant();
        newRows();
        newProgram();
        for (int k = 0; k < 32; k++) {
            bind(k);
        }
        for (int i = 0; i < 6; i++) {
            fill();
        }
        for (int i = 0; i < 50; i++) {
            title = "house " + number + " call " + i + " ";
            change(random(34));
            compare();
        }
        for (int[] alarm : model.alarms) {
            ALARMS[alarm[2]]++;
        }
    }

    private void newPlant() {
        HouseModel plant = HouseModel.any(WholeModelTest::random);
        check.due(title + "plant", Check.read(house, 0, plant.text()), plant.kind.length);
        model.newPlant(plant);
    }

    private void newRows() {
        List<RowModel> rows = new ArrayList<>();
        StringBuilder text = new StringBuilder();
        int several = random(5);
        for (int i = 0; i < several; i++) {
            rows.add(new RowModel(WholeModelTest::random));
            text.append(rows.get(i).text);
        }
        check.due(title + "rows " + text, Check.read(house, 1, text.toString()), several);
        model.rows = rows;
    }

    private void newProgram() {
        ProgramMaker maker = new ProgramMaker(WholeModelTest::random, random(3) == 0);
        while (!maker.fits() || maker.answer() < 0) {
            maker = new ProgramMaker(WholeModelTest::random, random(3) == 0);
        }
        check.due(title + "program " + maker.text, Check.read(house, 2, maker.text.toString()), maker.answer());
        model.newProgram(maker);
    }

    private int anyThing() {
        return random(model.plant.kind.length + 1);
    }

    private int anySpace() {
        return random(model.plant.kind.length + model.plant.ends.length + 2) - 1;
    }

    private int anyName() {
        return random(model.program.names.size() + 1);
    }

    private void bind(int k) {
        int what = random(3) > 0 ? random(2) : random(5);
        int x = what < 2 ? random(3) : what == 2 ? anyThing() : anySpace();
        int y = what < 2 ? random(3) : what == 2 ? random(5) : 1 + random(5);
        int z = 1 + random(5);
        check.due(title + "bind " + k, house.bind(k, what, x, y, z), true);
        model.bind(k, what, x, y, z);
    }

    private void change(int pick) {
        if (pick < 10) {
            divide();
            tick(1 + random(3) / 2);
        } else if (pick < 14) {
            fill();
        } else if (pick < 18) {
            int k = random(32);
            check.due(title + "act " + k, house.act(k), model.act(k));
        } else if (pick < 22) {
            lead(pick);
        } else if (pick < 26) {
            sense(pick);
        } else if (pick < 29) {
            tellRows(pick);
        } else if (pick < 32) {
            tellLiquids(pick);
        } else {
            tellAnew();
        }
    }

    /** In some seconds many tests of the program divide by 0; behind them it goes on. */
    private void divide() {
        if (model.program.faulty) {
            long by = random(4) == 0 ? 0 : 500;
            check.due(title + "what is divided by", house.signal(0, by), model.signal(0, by));
            check.due(title + "goes on", house.hold(false), model.hold(false));
        }
    }

    private void tick(int seconds) {
        for (int i = 0; i < seconds; i++) {
            model.tick();
        }
        check.due(title + "tick", house.tick(seconds), model.state());
    }

    private void fill() {
        int tank = random(4) == 0 ? anyThing() : random(3);
        int liquid = 1 + random(3) * random(2);
        int litres = 1 + random(12);
        check.due(title + "fill", house.fill(tank, liquid, litres), model.plant.fill(tank, liquid, litres));
    }

    private void lead(int pick) {
        if (pick == 18 && random(3) == 0 || model.state() != 0 && model.state() != 2) {
            check.due(title + "start", house.start(), model.start());
        } else if (pick == 19 && random(6) == 0) {
            check.due(title + "stop", house.stop(), model.stop());
        } else if (pick == 20) {
            long value = random(5) * 1000L;
            check.due(title + "answer", house.answer(value), model.run != null && model.run.answer(value));
        } else {
            boolean on = random(4) == 0;
            check.due(title + "hold", house.hold(on), model.hold(on));
        }
    }

    private void sense(int pick) {
        int name = anyName();
        int what = random(6);
        int x = what == 1 ? anySpace() : anyThing();
        if (pick == 22) {
            check.due(title + "sense", house.sense(name, what, x), model.sense(name, what, x));
        } else if (pick == 23) {
            long value = random(6) * 1000L - 1000;
            check.due(title + "signal", house.signal(name, value), model.signal(name, value));
        } else {
            int c = random(4);
            int least = random(what == 4 ? 60 : 4) - (random(9) == 0 ? 3 : 0);
            check.due(title + "watch", house.watch(c, what, x, least), true);
            model.watch(c, what, x, least);
        }
    }

    private void tellRows(int pick) {
        int row = random(6);
        if (pick == 26) {
            int seconds = 1 + random(4);
            check.due(title + "pass", house.pass(row, 1, 2, seconds), model.pass(row, seconds));
        } else if (pick == 27) {
            check.due(title + "reset", house.reset(row), model.reset(row));
        } else {
            bind(random(32));
        }
    }

    private void tellLiquids(int pick) {
        int a = 1 + random(3);
        int b = 1 + random(3);
        if (pick == 29 && a != b) {
            check.due(title + "may", house.may(a, b), !model.plant.may[a][b]);
            model.plant.may[a][b] = true;
            model.plant.may[b][a] = true;
        } else if (pick == 30) {
            int level = random(3) == 0 ? random(6) : 0;
            check.due(title + "need", house.need(a, b, level), true);
            model.plant.need[a][b] = level;
        } else {
            int level = 1 + random(5);
            int seconds = random(20);
            check.due(title + "lasts", house.lasts(level, seconds), true);
            model.plant.lasts[level] = seconds;
        }
    }

    private void tellAnew() {
        int pick = random(16);
        if (pick == 0) {
            newPlant();
        } else if (pick == 1) {
            newProgram();
        } else if (pick < 4) {
            newRows();
        }
    }

    private void compare() {
        HouseModelTest.compare(check, title, model.plant, house);
        check.due(title + "state", house.state(), model.state());
        STATES[model.state()]++;
        flowing += model.state() == 0 && !model.plant.open.isEmpty() ? 1 : 0;
        for (int i = 0; i < model.values.length; i++) {
            check.due(title + "value " + i, house.value(i), model.program.kinds.get(i) == 2 ? 0 : model.values[i]);
        }
        if (model.run != null) {
            RunModelTest.compare(check, title, house, model.run, model.program);
        } else {
            check.due(title + "nothing stands still", house.still(0), -1);
            RunModelTest.compareAlarms(check, title, house, model.alarms);
        }
        for (int k = 0; k < 32; k++) {
            check.due(title + "bars " + k, house.bars(k), model.bars(k));
            barred += model.bars(k) > 0 ? 1 : 0;
        }
        for (int r = 0; r < model.rows.size(); r++) {
            RowModel row = model.rows.get(r);
            check.due(title + "count of row " + (r + 1), house.row(r + 1, 0), row.count);
            check.due(title + "row is latched " + (r + 1), house.row(r + 1, 1), row.latched ? 1 : 0);
            check.due(title + "by-pass of row " + (r + 1), house.row(r + 1, 2), row.passed);
            check.due(title + "row is on " + (r + 1), house.row(r + 1, 3), row.isOn(model.conditions) ? 1 : 0);
        }
        check.due(title + "no row behind", house.row(model.rows.size() + 1, 0), -1);
    }
}
