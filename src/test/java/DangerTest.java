import java.lang.reflect.Field;
import java.util.Arrays;

/**
 * Promise 28: what is told of a danger. Fills, acts and closings leave no house unsafe, so liquids that may meet are
 * brought together first, and what was told of them is taken back by force.
 */
public final class DangerTest {
    private static long seed = 28;
    private static int[] kinds = new int[3];

    private static int random(int n) {
        seed = seed * 6364136223846793005L + 1442695040888963407L;
        return (int) ((seed >>> 33) % n);
    }

    public static void main(String[] args) throws ReflectiveOperationException {
        Check check = new Check();
        int plants = args.length > 0 ? Integer.parseInt(args[0]) : 100;
        for (int i = 0; i < plants; i++) {
            run(check, "plant " + i + " ");
        }
        System.out.println(kinds[0] + " safe ones, " + kinds[1] + " without and " + kinds[2] + " with a failure");
        leastOfSeveral(check);
        check.due("28: safe ones", kinds[0] > 20, true);
        check.due("28: without a failure", kinds[1] > 20, true);
        check.due("28: with a failure", kinds[2] > 20, true);
        check.done();
    }

    private static HouseModel plant() {
        int tanks = 2 + random(6);
        int[] kind = new int[tanks + 2 + random(8)];
        int[] room = new int[kind.length];
        int[] free = new int[kind.length];
        int[] portCount = {2, 3, 3, 2, 4, 1, 2, 2, 2};
        for (int t = 0; t < kind.length; t++) {
            kind[t] = t < tanks ? HouseModel.TANK : random(9);
            room[t] = t < tanks ? 20 : 0;
            free[t] = t < tanks ? 99 : portCount[kind[t]];
        }
        int[][] ends = new int[5 + random(12)][2];
        int[] pipeRoom = new int[ends.length];
        for (int p = 0; p < ends.length; p++) {
            for (int side = 0; side < 2; side++) {
                int t = side == 0 && random(2) == 0 ? random(tanks) : tanks + random(kind.length - tanks);
                ends[p][side] = free[t] > 0 ? t : -1;
                free[t] -= free[t] > 0 ? 1 : 0;
            }
            pipeRoom[p] = 1 + random(5);
        }
        return new HouseModel(kind, room, ends, pipeRoom);
    }

    /** The least space comes first, then the least liquids there: lesser ones meet in a greater space, too. */
    private static void leastOfSeveral(Check check) throws ReflectiveOperationException {
        int[][] liquids = {{3, 4, 1, 5}, {4, 3, 1, 2}, {3, 4, 5, 1}, {13, 14, 1, 2}, {1, 2, 13, 14}};
        for (int[] l : liquids) {
            BreweryHouse house = Hands.house("tank 9\ntank 9\ntank 9\ntank 9\npipe 0 1 1\npipe 2 3 1\n");
            house.may(l[0], l[1]);
            house.may(l[2], l[3]);
            for (int t = 0; t < 4; t++) {
                check.due("28: fill", house.fill(t, l[t], 5), true);
            }
            check.due("28: safe", house.danger(0), 0);
            Arrays.fill(meeting(house), 0);
            check.due("28: without a failure", house.danger(0), 1);
            check.due("28: the least space", house.danger(1), 0);
            check.due("28: its lesser liquid", house.danger(2), Math.min(l[0], l[1]));
            check.due("28: its greater liquid", house.danger(3), Math.max(l[0], l[1]));
        }
    }

    private static int[] meeting(BreweryHouse house) throws ReflectiveOperationException {
        Field stock = BreweryHouse.class.getDeclaredField("stock");
        stock.setAccessible(true);
        Object all = stock.get(house);
        Field meeting = all.getClass().getDeclaredField("meeting");
        meeting.setAccessible(true);
        return (int[]) meeting.get(all);
    }

    private static void run(Check check, String name) throws ReflectiveOperationException {
        HouseModel model = plant();
        BreweryHouse house = new BreweryHouse();
        Check.read(house, 0, model.text());
        for (int a = 1; a <= 14; a++) {
            for (int b = 1; b <= 14; b++) {
                house.may(a, b);
                model.may[a][b] = true;
                model.need[a][b] = 0;
                house.need(a, b, 0);
            }
        }
        for (int i = 0; i < 30; i++) {
            int what = random(7);
            int x = what == 3 || what == 4 || what < 2 ? random(5) : random(model.kind.length);
            int y = random(what == 2 ? 10 : 5);
            house.bind(0, Math.min(what, 2), x, y, 5);
            if (what < 3) {
                check.due(name + "act", house.act(0), model.act(what, x, y, 5));
            } else if (what < 5) {
                check.due(name + "fill", house.fill(x, 1 + y * 3, 3), model.fill(x, 1 + y * 3, 3));
            } else {
                house.tick(1);
                model.tick();
            }
        }
        int[] told = meeting(house);
        Arrays.fill(told, 0);
        for (boolean[] row : model.may) {
            Arrays.fill(row, false);
        }
        for (int i = 0; i < 60; i++) {
            compare(check, name + i + " ", model, house);
            int a = 1 + random(14);
            int b = 1 + random(14);
            if (a != b) {
                house.may(a, b);
                model.may[a][b] = true;
                model.may[b][a] = true;
            }
        }
    }

    private static void compare(Check check, String name, HouseModel model, BreweryHouse house) {
        int[] due = model.danger();
        kinds[due == null ? 0 : due[0] == 1 ? 1 : 2]++;
        for (int what = 0; what < 4; what++) {
            check.due(name + "danger " + what, house.danger(what), due != null ? due[what] : what == 0 ? 0 : -1);
        }
        check.due(name + "another what", house.danger(4) + house.danger(-1), -2);
    }
}
