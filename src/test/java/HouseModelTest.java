/** Promises 3 to 7, 11, 12, 14, 26, 27, 28 and 29 against a plain model, over many small plants and acts. */
public final class HouseModelTest {
    private static long seed = 20261115;
    private static final int[] HITS = new int[8];
    private static int moved;

    private static int random(int n) {
        seed = seed * 6364136223846793005L + 1442695040888963407L;
        return (int) ((seed >>> 33) % n);
    }

    public static void main(String[] args) {
        Check check = new Check();
        int plants = args.length > 0 ? Integer.parseInt(args[0]) : 120;
        for (int i = 0; i < plants; i++) {
            run(check, i);
        }
        for (int reason = 0; reason < 8; reason++) {
            check.due("reason 2 is never met here, " + reason + " is", HITS[reason] > 0, reason != 2);
        }
        check.due("litres were moved", moved > 100, true);
        check.done();
    }

    private static void run(Check check, int number) {
        HouseModel model = HouseModel.any(HouseModelTest::random);
        BreweryHouse house = new BreweryHouse();
        String name = "plant " + number + " ";
        check.due(name, Check.read(house, 0, model.text()), model.kind.length);
        String text = model.text();
        for (int i = 0; i <= text.length(); i += 7) {
            check.due(name + "write " + i, house.write(i), i < text.length() ? text.charAt(i) : -1);
        }
        int liquids = 1 + random(4);
        int easy = random(4);
        for (int i = 0; i < 60; i++) {
            change(check, name + i + " ", model, house, liquids, easy);
            compare(check, name + i + " ", model, house);
        }
    }

    private static void change(Check check, String name, HouseModel model, BreweryHouse house, int liquids, int easy) {
        int n = model.kind.length;
        int a = random(liquids) + 1;
        int b = random(liquids) + 1;
        int pick = random(20);
        if (pick == 0 && a != b) {
            check.due(name + "may", house.may(a, b), !model.may[a][b]);
            model.may[a][b] = true;
            model.may[b][a] = true;
        } else if (pick <= easy) {
            int level = random(6);
            check.due(name + "need", house.need(a, b, level), true);
            model.need[a][b] = level;
        } else if (pick == 4) {
            int level = 1 + random(5);
            int seconds = random(20);
            check.due(name + "lasts", house.lasts(level, seconds), true);
            model.lasts[level] = seconds;
        } else if (pick < 9) {
            int tank = random(n + 1);
            int howMany = random(20);
            check.due(name + "fill " + tank + " " + a + " " + howMany, house.fill(tank, a, howMany), model.fill(tank, a, howMany));
        } else if (pick < 13) {
            int seconds = random(4);
            house.tick(seconds);
            for (int s = 0; s < seconds; s++) {
                model.tick();
            }
        } else {
            doAct(check, name, model, house);
        }
    }

    private static void doAct(Check check, String name, HouseModel model, BreweryHouse house) {
        int n = model.kind.length;
        int what = random(3) > 0 ? 0 : random(5);
        int x = what == 0 || what == 1 ? random(5) : random(n + model.ends.length + 1) - (random(20) == 0 ? 2 : 0);
        int y = what == 0 || what == 1 ? random(5) : what == 2 ? random(random(3) == 0 ? 10 : 5) : 1 + random(5);
        int z = 1 + random(10);
        house.bind(3, what, x, y, z);
        int due = model.act(what, x, y, z);
        HITS[due]++;
        check.due(name + "act " + what + " " + x + " " + y + " " + z, house.act(3), due);
    }

    /** Holds all that calls tell of the plant against the model. */
    static void compare(Check check, String name, HouseModel model, BreweryHouse house) {
        int n = model.kind.length;
        for (int s = 0; s < n + model.ends.length; s++) {
            boolean holder = s >= n || model.kind[s] == HouseModel.TANK;
            int liquid = holder ? model.liquid(s) : -1;
            check.due(name + "liquid of " + s, house.space(s, 0), liquid);
            check.due(name + "litres of " + s, house.space(s, 1), holder ? model.amount(s) : -1);
            check.due(name + "last of " + s, house.space(s, 2), holder ? liquid != 0 ? liquid : model.last[s] : -1);
            check.due(name + "level of " + s, house.space(s, 3), holder ? model.level(s) : -1);
            boolean valve = s < n && model.kind[s] < HouseModel.PUMP;
            check.due(name + "position of " + s, house.space(s, 4), valve ? model.position[s] : -1);
            moved += s >= n && liquid > 0 ? 1 : 0;
        }
        for (int k = 0; k <= model.open.size(); k++) {
            boolean is = k < model.open.size();
            HouseModel.Way w = is ? model.open.get(k) : null;
            int pipes = is ? w.steps.size() : 0;
            check.due(name + "from of way " + k, house.way(k, 0), is ? w.from : -1);
            check.due(name + "to of way " + k, house.way(k, 1), is ? w.to : -1);
            check.due(name + "pipes of way " + k, house.way(k, 2), is ? pipes : -1);
            for (int i = 0; i <= pipes; i++) {
                check.due(name + "pipe " + i + " of way " + k, house.way(k, 3 + i), i < pipes ? w.steps.get(i)[0] : -1);
            }
        }
        int[] danger = model.danger();
        for (int what = 0; what < 4; what++) {
            check.due(name + "danger " + what, house.danger(what), danger != null ? danger[what] : what == 0 ? 0 : -1);
        }
        check.due(name + "second", house.second(), model.second);
    }
}
