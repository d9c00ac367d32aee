import java.util.ArrayList;
import java.util.List;

/** The whole house in its plainest form: the models of plant, rows and run, and the order of a second. */
final class WholeModel {
    HouseModel plant = new HouseModel(new int[0], new int[0], new int[0][2], new int[0]);
    List<RowModel> rows = new ArrayList<>();
    ProgramMaker program;
    // Null when there is none; the values and alarms outlast it.
    RunModel run;
    long[] values = new long[0];
    List<int[]> alarms = new ArrayList<>();
    final boolean[] conditions = new boolean[16];
    private int[][] sensed = new int[0][];
    private final long[][] watched = new long[16][];
    private final int[][] bound = new int[32][];

    void newPlant(HouseModel next) {
        for (int l = 1; l <= 14; l++) {
            System.arraycopy(plant.may[l], 0, next.may[l], 0, 15);
            System.arraycopy(plant.need[l], 0, next.need[l], 0, 15);
        }
        System.arraycopy(plant.lasts, 0, next.lasts, 0, 6);
        next.second = plant.second;
        plant = next;
        run = null;
    }

    void newProgram(ProgramMaker next) {
        program = next;
        run = null;
        values = new long[next.names.size()];
        sensed = new int[next.names.size()][];
        closeAll();
    }

    private void closeAll() {
        for (int k = plant.open.size() - 1; k >= 0; k--) {
            plant.close(plant.open.get(k));
        }
    }

    int state() {
        return run == null ? 4 : run.state;
    }

    private boolean isAlive() {
        return state() == 0 || state() == 2;
    }

    boolean sense(int name, int what, int x) {
        if (program == null || !program.isSignal(name) || what < 0 || what > 5) {
            return false;
        }
        sensed[name] = what == 5 ? null : new int[] {what, x};
        return true;
    }

    void watch(int c, int what, int x, long least) {
        watched[c] = what == 5 ? null : new long[] {what, x, least};
    }

    boolean signal(int name, long value) {
        if (program == null || !program.isSignal(name)) {
            return false;
        }
        values[name] = value;
        return true;
    }

    void bind(int k, int... what) {
        bound[k] = what;
    }

    private int perform(int k) {
        int[] b = bound[k];
        boolean binds = b != null && plant.isBound(b[0], b[1], b[2]);
        return !binds ? 1 : bars(k) > 0 ? 2 : plant.act(b[0], b[1], b[2], b[3]);
    }

    int act(int k) {
        int reason = perform(k);
        if (reason > 0) {
            alarms.add(new int[] {plant.second, -1, 10 + reason});
        }
        return reason;
    }

    boolean start() {
        if (program == null) {
            return false;
        }
        if (isAlive()) {
            closeAll();
        }
        for (int i = 0; i < values.length; i++) {
            values[i] = sensed[i] == null ? 0 : values[i];
        }
        run = new RunModel(program.main, values, plant.second);
        run.acts = this::perform;
        alarms = run.alarms;
        return true;
    }

    boolean hold(boolean on) {
        if (state() != (on ? 0 : 2)) {
            return false;
        }
        run.state = on ? 2 : 0;
        if (on) {
            closeAll();
        }
        return true;
    }

    boolean stop() {
        if (!isAlive()) {
            return false;
        }
        run.state = 3;
        closeAll();
        return true;
    }

    int bars(int k) {
        for (int r = 0; r < rows.size(); r++) {
            if (rows.get(r).bars(k, conditions)) {
                return r + 1;
            }
        }
        return 0;
    }

    int pass(int row, int seconds) {
        if (row < 1 || row > rows.size()) {
            return -1;
        }
        if (rows.get(row - 1).passed > 0) {
            return -4;
        }
        rows.get(row - 1).passed = seconds;
        return 0;
    }

    boolean reset(int row) {
        if (row < 1 || row > rows.size() || !rows.get(row - 1).latched || rows.get(row - 1).isOn(conditions)) {
            return false;
        }
        rows.get(row - 1).latched = false;
        return true;
    }

    void tick() {
        for (int i = 0; i < values.length; i++) {
            if (sensed[i] != null) {
                long found = look(sensed[i][0], sensed[i][1]);
                values[i] = found < 0 ? -1 : found * 1000;
            }
        }
        for (int c = 0; c < 16; c++) {
            long found = watched[c] == null ? -1 : look((int) watched[c][0], (int) watched[c][1]);
            conditions[c] = found >= 0 && found >= watched[c][2];
        }
        for (RowModel row : rows) {
            row.tick(conditions);
        }
        if (state() == 0) {
            run.second = plant.second;
            run.tick();
            if (run.state == 2 || run.state == 3) {
                closeAll();
            }
        }
        plant.tick();
    }

    /** What is sensed, -1 where there is no such x. */
    private int look(int what, int x) {
        boolean thing = x >= 0 && x < plant.kind.length;
        boolean tank = thing && plant.kind[x] == HouseModel.TANK;
        boolean pipe = x >= plant.kind.length && x < plant.kind.length + plant.ends.length;
        switch (what) {
            case 0:
                return tank ? plant.amount(x) : -1;
            case 1:
                return tank || pipe ? plant.liquid(x) : -1;
            case 2:
                return thing && plant.kind[x] < HouseModel.PUMP ? plant.position[x] : -1;
            case 3:
                return plant.open.size();
            default:
                return plant.second;
        }
    }
}
