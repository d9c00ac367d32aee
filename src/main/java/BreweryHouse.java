import java.util.Arrays;

/** A house of tanks, pumps, valves and pipes that step programs run. */
public final class BreweryHouse {
    public static final int NONE = -1;
    public static final int FULL = -2;

    private static final int THINGS = 20;
    private static final int PIPES = 24;
    private static final int SPACES = 44;
    private static final int LIQUIDS = 14;
    private static final int LEVELS = 5;
    private static final int POSITIONS = 10;
    private static final int PORTS = 4;
    private static final int NAMES = 40;
    private static final int NODES = 300;
    private static final int PARTS = 500;
    private static final int DEPTH = 100;
    private static final int LONGEST = 4000;

    private static final int TWO_SEATS = 4;
    private static final int PUMP = 8;
    private static final int TANK = 9;

    // Ports of each kind of thing; a tank has any number, so its entry is what all pipes can have.
    private static final int[] PORT_COUNT = {2, 3, 3, 2, 4, 1, 2, 2, 2, 48};

    // What each kind passes in each position: bit 4 * a + b stands for "from port a to port b".
    private static final int[] PASSES = {
        0, 18, 0, 0, 0, 0, 0, 0, 0, 0,
        18, 260, 0, 576, 0, 0, 0, 0, 0, 0,
        0, 18, 260, 576, 854, 0, 0, 0, 0, 0,
        2, 2, 2, 2, 2, 2, 2, 2, 2, 2,
        18450, 31710, 0, 0, 0, 0, 0, 0, 0, 0,
        0, 0, 0, 0, 0, 0, 0, 0, 0, 0,
        0, 18, 18, 18, 18, 18, 18, 18, 18, 18,
        0, 2, 0, 0, 0, 0, 0, 0, 0, 0,
        2, 2, 2, 2, 2, 2, 2, 2, 2, 2,
        0, 0, 0, 0, 0, 0, 0, 0, 0, 0,
    };

    private static final int OPEN = 0;
    private static final int CLOSE = 1;
    private static final int POSITION = 2;
    private static final int CLEAN = 3;
    private static final int DRAIN = 4;

    private static final int ON = 0;
    private static final int ENDED = 1;
    private static final int HELD = 2;
    private static final int STOPPED = 3;
    private static final int NO_RUN = 4;

    // The words of programs, in the order of the numbers below; units are 1 to 5, and 0 is none.
    private static final String KEYWORDS =
            "l c s bar part min h signal output step set wait until ramp in par if else repeat limit then ask do stop hold act ";
    private static final int SECONDS = 3;
    private static final int LAST_UNIT = 5;
    private static final int MIN = 6;
    private static final int HOUR = 7;
    private static final int SIGNAL = 8;
    private static final int OUTPUT = 9;
    private static final int STEP = 10;
    private static final int SET = 11;
    private static final int WAIT = 12;
    private static final int UNTIL = 13;
    private static final int RAMP = 14;
    private static final int IN = 15;
    private static final int PAR = 16;
    private static final int IF = 17;
    private static final int ELSE = 18;
    private static final int REPEAT = 19;
    private static final int LIMIT = 20;
    private static final int THEN = 21;
    private static final int ASK = 22;
    private static final int DO = 23;
    private static final int STOP = 24;
    private static final int HOLD = 25;
    private static final int ACT = 26;
    private static final int NAME = 30;
    private static final int NUMBER = 31;
    private static final int TEXT_END = 32;
    private static final int BAD = 33;
    private static final int NEGATE = 34;
    private static final int BLOCK = 35;

    private final Tape tape = new Tape();
    private final Alarms alarms = new Alarms();
    private final Stock stock = new Stock();
    private final Ways ways = new Ways(stock);
    private final Safety safety = new Safety(stock, ways);
    private final Acts acts = new Acts(stock, ways, safety);
    private final Run run = new Run(acts, alarms, stock);
    private final ProgramReader reader = new ProgramReader();
    private Plant sparePlant = new Plant();
    private Rows spareRows = new Rows();
    private Program spareProgram = new Program();
    private final byte[] plantText = new byte[640];
    private int plantTextLength;
    private final int[] watchWhat = new int[16];
    private final int[] watchX = new int[16];
    private final long[] watchLeast = new long[16];

    public BreweryHouse() {
        Arrays.fill(watchWhat, 5);
    }

    public int feed(int a, int b, int c, int d, int e) {
        if (!tape.hasRoom()) {
            return FULL;
        }
        tape.put(a);
        tape.put(b);
        tape.put(c);
        tape.put(d);
        tape.put(e);
        return tape.length;
    }

    public int end(int kind, int n) {
        boolean fits = kind >= 0 && kind <= 2 && n >= 0 && n <= LONGEST && n <= tape.length;
        tape.length = 0;
        tape.end = fits ? n : 0;
        if (!fits || !tape.isText()) {
            return NONE;
        }
        int wrong = kind == 0 ? sparePlant.read(tape)
                : kind == 1 ? spareRows.read(tape) : reader.read(tape, spareProgram);
        if (wrong >= 0) {
            return -3 - wrong;
        }
        return kind == 0 ? takePlant() : kind == 1 ? takeRows() : takeProgram();
    }

    private int takePlant() {
        Plant old = stock.plant;
        stock.renew(sparePlant);
        sparePlant = old;
        ways.forget();
        run.state = NO_RUN;
        plantTextLength = stock.plant.writeTo(plantText);
        return stock.plant.things;
    }

    private int takeRows() {
        Rows old = acts.rows;
        spareRows.conditions = old.conditions;
        acts.rows = spareRows;
        spareRows = old;
        return acts.rows.count;
    }

    private int takeProgram() {
        Program old = run.program;
        run.take(spareProgram);
        spareProgram = old;
        ways.closeAll();
        return run.program.statements;
    }

    public boolean fill(int tank, int liquid, long litres) {
        if (!stock.isTank(tank) || !isLiquid(liquid) || litres < 1 || litres > 100000) {
            return false;
        }
        if (litres > stock.plant.room[tank] - stock.amount[tank] || !stock.mayCome(tank, liquid)) {
            return false;
        }
        int before = stock.liquid[tank];
        stock.liquid[tank] = liquid;
        boolean safe = safety.isSafe();
        stock.liquid[tank] = before;
        if (safe) {
            stock.arrive(tank, liquid, (int) litres);
        }
        return safe;
    }

    private static boolean isLiquid(int liquid) {
        return liquid >= 1 && liquid <= LIQUIDS;
    }

    public boolean may(int liquid, int other) {
        if (!isLiquid(liquid) || !isLiquid(other) || liquid == other || stock.mayMeet(liquid, other)) {
            return false;
        }
        stock.meeting[liquid] |= 1 << other;
        stock.meeting[other] |= 1 << liquid;
        return true;
    }

    public boolean need(int last, int liquid, int level) {
        if (!isLiquid(last) || !isLiquid(liquid) || level < 0 || level > LEVELS) {
            return false;
        }
        stock.needed[last * (LIQUIDS + 1) + liquid] = level;
        return true;
    }

    public boolean lasts(int level, int seconds) {
        if (level < 1 || level > LEVELS || seconds < 0 || seconds > 1000000) {
            return false;
        }
        stock.lasting[level] = seconds;
        return true;
    }

    public boolean sense(int name, int what, int x) {
        if (!run.program.isSignal(name) || what < 0 || what > 5) {
            return false;
        }
        run.program.senseWhat[name] = what;
        run.program.senseX[name] = x;
        return true;
    }

    public boolean watch(int c, int what, int x, long least) {
        if (c < 0 || c > 15 || what < 0 || what > 5) {
            return false;
        }
        watchWhat[c] = what;
        watchX[c] = x;
        watchLeast[c] = least;
        return true;
    }

    public boolean signal(int name, long thousandths) {
        if (!run.program.isSignal(name)) {
            return false;
        }
        run.program.worth[name] = thousandths;
        return true;
    }

    public boolean bind(int k, int what, int x, int y, int z) {
        return acts.tie(k, what, x, y, z);
    }

    public int act(int k) {
        if (!Acts.isAct(k)) {
            return NONE;
        }
        int reason = acts.perform(k);
        if (reason > 0) {
            alarms.add(stock.now, NONE, 10 + reason);
        }
        return reason;
    }

    public boolean start() {
        if (run.program.opening < 0) {
            return false;
        }
        if (run.isAlive()) {
            ways.closeAll();
        }
        alarms.count = 0;
        run.program.clearValues();
        run.begin();
        return true;
    }

    public int tick(int seconds) {
        if (seconds < 0 || seconds > 600) {
            return NONE;
        }
        for (int i = 0; i < seconds; i++) {
            senseAll();
            acts.rows.countSecond();
            if (run.state == ON) {
                run.walk();
                if (run.state == HELD || run.state == STOPPED) {
                    ways.closeAll();
                }
            }
            ways.move();
            stock.now++;
        }
        return run.state;
    }

    private void senseAll() {
        Program program = run.program;
        for (int name = 0; name < program.names; name++) {
            if (program.isSensed(name)) {
                long sensed = sensed(program.senseWhat[name], program.senseX[name]);
                program.worth[name] = sensed < 0 ? -1 : sensed * 1000;
            }
        }
        int conditions = 0;
        for (int c = 0; c < 16; c++) {
            if (watchWhat[c] < 5) {
                long sensed = sensed(watchWhat[c], watchX[c]);
                conditions |= sensed >= 0 && sensed >= watchLeast[c] ? 1 << c : 0;
            }
        }
        acts.rows.conditions = conditions;
    }

    /** What is sensed in whole numbers, NONE where there is no such x. */
    private long sensed(int what, int x) {
        switch (what) {
            case 0:
                return stock.isTank(x) ? stock.amount[x] : NONE;
            case 1:
                return stock.isHolder(x) ? stock.liquid[x] : NONE;
            case 2:
                return stock.isValve(x) ? stock.position[x] : NONE;
            case 3:
                return ways.count;
            default:
                return stock.now;
        }
    }

    public boolean answer(long thousandths) {
        return run.giveAnswer(thousandths);
    }

    public boolean hold(boolean on) {
        if (run.state != (on ? ON : HELD)) {
            return false;
        }
        run.state = on ? HELD : ON;
        if (on) {
            ways.closeAll();
        }
        return true;
    }

    public boolean stop() {
        if (!run.isAlive()) {
            return false;
        }
        run.state = STOPPED;
        ways.closeAll();
        return true;
    }

    public int pass(int row, int personA, int personB, int seconds) {
        if (!acts.rows.has(row)) {
            return -1;
        }
        if (!isPerson(personA) || !isPerson(personB) || personA == personB) {
            return -2;
        }
        if (seconds < 1 || seconds > 3600) {
            return -3;
        }
        if (acts.rows.passed[row - 1] > 0) {
            return -4;
        }
        acts.rows.passed[row - 1] = seconds;
        return 0;
    }

    private static boolean isPerson(int person) {
        return person >= 1 && person <= 999;
    }

    public boolean reset(int row) {
        Rows rows = acts.rows;
        if (!rows.has(row) || !rows.latched[row - 1] || rows.isOn(row - 1)) {
            return false;
        }
        rows.latched[row - 1] = false;
        return true;
    }

    public int bars(int k) {
        return Acts.isAct(k) ? acts.rows.barring(k) : NONE;
    }

    public int row(int k, int what) {
        Rows rows = acts.rows;
        if (!rows.has(k)) {
            return NONE;
        }
        switch (what) {
            case 0:
                return rows.counts[k - 1];
            case 1:
                return rows.latched[k - 1] ? 1 : 0;
            case 2:
                return rows.passed[k - 1];
            case 3:
                return rows.isOn(k - 1) ? 1 : 0;
            default:
                return NONE;
        }
    }

    public int state() {
        return run.state;
    }

    public long value(int name) {
        return run.program.hasValue(name) ? run.program.worth[name] : 0;
    }

    public int still(int k) {
        return run.standingNode(k);
    }

    public int alarm(int k, int what) {
        return alarms.get(k, what);
    }

    public int way(int k, int what) {
        return ways.get(k, what);
    }

    public int space(int x, int what) {
        if (what == 4) {
            return stock.isValve(x) ? stock.position[x] : NONE;
        }
        if (!stock.isHolder(x)) {
            return NONE;
        }
        switch (what) {
            case 0:
                return stock.liquid[x];
            case 1:
                return stock.amount[x];
            case 2:
                return stock.liquid[x] > 0 ? stock.liquid[x] : stock.last[x];
            case 3:
                return stock.levelOf(x);
            default:
                return NONE;
        }
    }

    public int danger(int what) {
        boolean safe = safety.isSafe();
        if (what == 0) {
            return safety.failure;
        }
        if (safe) {
            return NONE;
        }
        switch (what) {
            case 1:
                return safety.where;
            case 2:
                return safety.firstLiquid;
            case 3:
                return safety.secondLiquid;
            default:
                return NONE;
        }
    }

    public int write(int i) {
        return i >= 0 && i < plantTextLength ? plantText[i] : NONE;
    }

    public int second() {
        return stock.now;
    }

    /** The bytes that were fed, four in a cell; a text is read up to its end. */
    private static final class Tape {
        private final int[] cells = new int[1005];
        int length;
        int end;

        boolean hasRoom() {
            return length + 20 <= 4 * cells.length;
        }

        void put(int number) {
            int cell = length >> 2;
            if (cell < cells.length) {
                cells[cell] = number;
                length += 4;
            }
        }

        /** Byte i of the text, NONE behind its end. */
        int at(int i) {
            if (i < 0 || i >= end || i >= 4 * cells.length) {
                return NONE;
            }
            return cells[i >> 2] >>> (24 - 8 * (i & 3)) & 255;
        }

        static boolean isDigit(int c) {
            return c >= '0' && c <= '9';
        }

        static boolean isLetter(int c) {
            return c >= 'a' && c <= 'z';
        }

        static boolean isBlank(int c) {
            return c == 32 || c == 10;
        }

        boolean isText() {
            for (int i = 0; i < end; i++) {
                int c = at(i);
                if (c <= 0 || c > 127) {
                    return false;
                }
            }
            return true;
        }
    }

    /** The things and pipes as a text of kind 0 told them. */
    private static final class Plant {
        int things;
        int pipes;
        final int[] kind = new int[THINGS];
        final int[] room = new int[THINGS];
        final int[] ports = new int[THINGS];
        final int[] pipeRoom = new int[PIPES];
        // End 2 * p is pipe p's first one, 2 * p + 1 its second one.
        final int[] endThing = new int[2 * PIPES];
        final int[] endPort = new int[2 * PIPES];
        final int[] portEnd = new int[THINGS * PORTS];
        private Tape tape;
        private int at;
        private int number;

        /** NONE, or the place where the text is wrong. */
        int read(Tape text) {
            tape = text;
            things = 0;
            pipes = 0;
            at = 0;
            for (int line = 0; line <= LONGEST && at < text.end; line++) {
                if (!readLine()) {
                    return at;
                }
                at++;
            }
            return NONE;
        }

        /** Reads up to the byte 10, and stands there or at the first byte that is wrong. */
        private boolean readLine() {
            if (tape.at(at) == 't') {
                return takes("tank ") && takesNumber() && endsLine() && number >= 1 && number <= 100000
                        && addThing(TANK, number);
            }
            if (tape.at(at) == 'v') {
                return takes("valve ") && takesNumber() && endsLine() && number <= 7 && addThing(number, 0);
            }
            if (tape.at(at) == 'p' && tape.at(at + 1) == 'u') {
                return takes("pump") && endsLine() && addThing(PUMP, 0);
            }
            return takes("pipe ") && readPipe();
        }

        private boolean readPipe() {
            if (!takesPipeEnd()) {
                return false;
            }
            int one = number;
            if (!takes(" ") || !takesPipeEnd()) {
                return false;
            }
            int two = number;
            return takes(" ") && takesNumber() && endsLine() && addPipe(one, two, number);
        }

        private boolean takes(String word) {
            for (int i = 0; i < word.length(); i++) {
                if (tape.at(at) != word.charAt(i)) {
                    return false;
                }
                at++;
            }
            return true;
        }

        private boolean endsLine() {
            return tape.at(at) == 10;
        }

        private boolean takesPipeEnd() {
            if (tape.at(at) == '-') {
                at++;
                number = NONE;
                return true;
            }
            return takesNumber();
        }

        private boolean takesNumber() {
            number = 0;
            int digits = 0;
            while (digits < 7 && Tape.isDigit(tape.at(at)) && (digits == 0 || number > 0)) {
                number = number * 10 + tape.at(at) - '0';
                at++;
                digits++;
            }
            return digits > 0;
        }

        private boolean addThing(int itsKind, int litres) {
            if (things >= THINGS) {
                return false;
            }
            kind[things] = itsKind;
            room[things] = litres;
            ports[things] = 0;
            for (int port = 0; port < PORTS; port++) {
                portEnd[things * PORTS + port] = NONE;
            }
            things++;
            return true;
        }

        private boolean addPipe(int one, int two, int litres) {
            if (pipes >= PIPES || litres < 1 || litres > 200) {
                return false;
            }
            pipeRoom[pipes] = litres;
            if (!joins(2 * pipes, one) || !joins(2 * pipes + 1, two)) {
                return false;
            }
            pipes++;
            return true;
        }

        private boolean joins(int end, int thing) {
            endThing[end] = thing;
            endPort[end] = 0;
            if (thing == NONE) {
                return true;
            }
            if (thing >= things || ports[thing] >= PORT_COUNT[kind[thing]]) {
                return false;
            }
            if (kind[thing] != TANK) {
                endPort[end] = ports[thing];
                portEnd[thing * PORTS + ports[thing]] = end;
            }
            ports[thing]++;
            return true;
        }

        /** Writes the text with things first, then pipes: its length. */
        int writeTo(byte[] text) {
            int n = 0;
            for (int t = 0; t < things; t++) {
                if (kind[t] == PUMP) {
                    n = put(text, n, "pump");
                } else if (kind[t] == TANK) {
                    n = putNumber(text, put(text, n, "tank "), room[t]);
                } else {
                    n = putNumber(text, put(text, n, "valve "), kind[t]);
                }
                n = put(text, n, "\n");
            }
            for (int p = 0; p < pipes; p++) {
                n = putPipeEnd(text, put(text, n, "pipe "), endThing[2 * p]);
                n = putPipeEnd(text, put(text, n, " "), endThing[2 * p + 1]);
                n = putNumber(text, put(text, n, " "), pipeRoom[p]);
                n = put(text, n, "\n");
            }
            return n;
        }

        private static int put(byte[] text, int n, String word) {
            int length = n;
            for (int i = 0; i < word.length() && length < text.length; i++) {
                text[length] = (byte) word.charAt(i);
                length++;
            }
            return length;
        }

        private static int putPipeEnd(byte[] text, int n, int thing) {
            return thing == NONE ? put(text, n, "-") : putNumber(text, n, thing);
        }

        private static int putNumber(byte[] text, int n, int number) {
            int unit = 1;
            while (unit <= 100000 && number / unit >= 10) {
                unit *= 10;
            }
            int length = n;
            while (unit >= 1 && length < text.length) {
                text[length] = (byte) ('0' + number / unit % 10);
                length++;
                unit /= 10;
            }
            return length;
        }
    }

    /** What the spaces have and had, how the valves stand, and what was told of liquids. */
    private static final class Stock {
        Plant plant = new Plant();
        int now;
        final int[] position = new int[THINGS];
        final int[] liquid = new int[SPACES];
        final int[] amount = new int[SPACES];
        final int[] last = new int[SPACES];
        // The last second in which a space was cleaned with a level since it has no liquid.
        private final int[] cleaned = new int[SPACES * (LEVELS + 1)];
        // A pipe has one liquid, so a bit for each of its litres is enough; they go round from start on.
        private final long[] litres = new long[PIPES * 4];
        private final int[] start = new int[PIPES];
        final int[] meeting = new int[LIQUIDS + 1];
        final int[] needed = new int[(LIQUIDS + 1) * (LIQUIDS + 1)];
        final int[] lasting = new int[LEVELS + 1];

        Stock() {
            Arrays.fill(cleaned, NONE);
            Arrays.fill(needed, LEVELS);
            Arrays.fill(lasting, 86400);
        }

        void renew(Plant next) {
            plant = next;
            Arrays.fill(position, 0);
            Arrays.fill(liquid, 0);
            Arrays.fill(amount, 0);
            Arrays.fill(last, 0);
            Arrays.fill(cleaned, NONE);
            Arrays.fill(litres, 0);
            Arrays.fill(start, 0);
        }

        boolean isTank(int x) {
            return x >= 0 && x < plant.things && plant.kind[x] == TANK;
        }

        boolean isValve(int x) {
            return x >= 0 && x < plant.things && plant.kind[x] < PUMP;
        }

        boolean isPipe(int x) {
            return x >= plant.things && x < plant.things + plant.pipes;
        }

        boolean isHolder(int x) {
            return isTank(x) || isPipe(x);
        }

        boolean mayMeet(int one, int other) {
            return (meeting[one] >> other & 1) != 0;
        }

        boolean mayCome(int space, int what) {
            if (liquid[space] != 0) {
                return liquid[space] == what;
            }
            if (last[space] == 0) {
                return true;
            }
            int level = needed[last[space] * (LIQUIDS + 1) + what];
            return level == 0 || heldLevel(space) >= level;
        }

        int levelOf(int space) {
            return liquid[space] != 0 || last[space] == 0 ? 0 : heldLevel(space);
        }

        private int heldLevel(int space) {
            int latest = NONE;
            for (int level = LEVELS; level >= 1; level--) {
                latest = Math.max(latest, cleaned[space * (LEVELS + 1) + level]);
                if (latest >= 0 && now - latest < lasting[level]) {
                    return level;
                }
            }
            return 0;
        }

        void cleanSpace(int space, int level) {
            cleaned[space * (LEVELS + 1) + level] = now;
        }

        private void forgetCleanings(int space) {
            for (int level = 1; level <= LEVELS; level++) {
                cleaned[space * (LEVELS + 1) + level] = NONE;
            }
        }

        void arrive(int space, int what, int howMany) {
            if (liquid[space] == 0) {
                forgetCleanings(space);
            }
            liquid[space] = what;
            amount[space] += howMany;
        }

        void leave(int space, int howMany) {
            if (liquid[space] == 0) {
                return;
            }
            amount[space] = Math.max(0, amount[space] - howMany);
            if (amount[space] == 0) {
                last[space] = liquid[space];
                liquid[space] = 0;
                forgetCleanings(space);
            }
        }

        void emptyCells(int space) {
            int pipe = space - plant.things;
            for (int i = 0; pipe >= 0 && i < 4; i++) {
                litres[pipe * 4 + i] = 0;
            }
        }

        /** The cell of the litre that leaves a pipe next; forth is from its first end to its second one. */
        private int leavingCell(int pipe, boolean forth) {
            int room = plant.pipeRoom[pipe];
            return forth && room > 0 ? (start[pipe] + room - 1) % room : start[pipe];
        }

        private boolean isFull(int pipe, int cell) {
            return (litres[pipe * 4 + (cell >> 6)] >>> (cell & 63) & 1) != 0;
        }

        boolean wouldLeave(int pipe, boolean forth) {
            return isFull(pipe, leavingCell(pipe, forth));
        }

        /** A litre, or an empty one, comes into a pipe: whether a litre leaves it at the other end. */
        boolean push(int pipe, boolean forth, boolean full, int what) {
            int room = plant.pipeRoom[pipe];
            int cell = leavingCell(pipe, forth);
            boolean leaves = isFull(pipe, cell);
            long bit = 1L << (cell & 63);
            int word = pipe * 4 + (cell >> 6);
            litres[word] = full ? litres[word] | bit : litres[word] & ~bit;
            start[pipe] = forth ? cell : cell + 1 < room ? cell + 1 : 0;
            if (full) {
                arrive(plant.things + pipe, what, 1);
            }
            if (leaves) {
                leave(plant.things + pipe, 1);
            }
            return leaves;
        }
    }

    /** The open ways, and the search for one more. */
    private static final class Ways {
        private static final int FAR = 1 << 29;

        private final Stock stock;
        int count;
        private final int[] from = new int[PIPES];
        private final int[] to = new int[PIPES];
        private final int[] rate = new int[PIPES];
        private final int[] carried = new int[PIPES];
        private final int[] length = new int[PIPES];
        private final int[] firstPipe = new int[PIPES];
        private final int[] lastPipe = new int[PIPES];
        // Of the pipes on open ways: the end where they are left, and the pipe behind them.
        private final int[] exit = new int[PIPES];
        private final int[] nextPipe = new int[PIPES];
        private final boolean[] taken = new boolean[PIPES];
        // How many open ways go over a pump or valve.
        private final int[] over = new int[THINGS];
        // What the cheapest way costs that enters a pipe at an end: litres first, then pipes.
        private final int[] leg = new int[2 * PIPES];
        // The way that was found last: the ends where its pipes are left.
        final int[] path = new int[PIPES];
        int pathLength;
        private final int[] before = new int[THINGS];
        // The least position in which a kind passes from one port to another.
        private final int[] needed = new int[(TANK + 1) * 16];

        Ways(Stock stock) {
            this.stock = stock;
            for (int i = 0; i < needed.length; i++) {
                needed[i] = NONE;
                for (int position = POSITIONS - 1; position >= 0; position--) {
                    if ((PASSES[(i >> 4) * POSITIONS + position] >> (i & 15) & 1) != 0) {
                        needed[i] = position;
                    }
                }
            }
        }

        void forget() {
            count = 0;
            for (int p = 0; p < PIPES; p++) {
                taken[p] = false;
            }
            Arrays.fill(over, 0);
        }

        int get(int k, int what) {
            if (k < 0 || k >= count || what < 0 || what >= 3 + length[k]) {
                return NONE;
            }
            if (what < 3) {
                return what == 0 ? from[k] : what == 1 ? to[k] : length[k];
            }
            int pipe = firstPipe[k];
            for (int i = 3; i < what && pipe >= 0; i++) {
                pipe = nextPipe[pipe];
            }
            return pipe;
        }

        int indexOf(int x, int y) {
            for (int k = 0; k < count; k++) {
                if (from[k] == x && to[k] == y) {
                    return k;
                }
            }
            return NONE;
        }

        boolean goesOver(int valve) {
            return over[valve] > 0;
        }

        boolean hasSpace(int space) {
            if (stock.isPipe(space)) {
                return taken[space - stock.plant.things];
            }
            for (int k = 0; k < count; k++) {
                if (from[k] == space || to[k] == space) {
                    return true;
                }
            }
            return false;
        }

        /** The way from x to y into path, as the ends where its pipes are left: whether there is one. */
        boolean find(int x, int y) {
            Plant plant = stock.plant;
            int ends = 2 * plant.pipes;
            for (int e = 0; e < ends; e++) {
                boolean arrives = plant.endThing[e ^ 1] == y && !taken[e >> 1];
                leg[e] = arrives ? plant.pipeRoom[e >> 1] * 32 + 1 : FAR;
            }
            boolean changed = true;
            for (int round = 0; changed && round <= ends; round++) {
                changed = false;
                for (int e = 0; e < ends; e++) {
                    int entry = taken[e >> 1] ? NONE : onward(e ^ 1);
                    int cost = entry < 0 ? FAR : plant.pipeRoom[e >> 1] * 32 + 1 + leg[entry];
                    if (cost < leg[e]) {
                        leg[e] = cost;
                        changed = true;
                    }
                }
            }
            int entry = cheapestEntry(x);
            pathLength = 0;
            while (entry >= 0 && pathLength < PIPES) {
                int out = entry ^ 1;
                path[pathLength] = out;
                pathLength++;
                entry = plant.endThing[out] == y ? NONE : onward(out);
            }
            return pathLength > 0;
        }

        private int cheapestEntry(int tank) {
            int entry = NONE;
            int best = FAR;
            for (int e = 0; e < 2 * stock.plant.pipes; e++) {
                if (stock.plant.endThing[e] == tank && leg[e] < best) {
                    entry = e;
                    best = leg[e];
                }
            }
            return entry;
        }

        /** The end where the way goes on best; ports are in the order of pipes, so the first of equals is due. */
        private int onward(int out) {
            Plant plant = stock.plant;
            int thing = plant.endThing[out];
            int best = NONE;
            int least = FAR;
            for (int port = 0; port < PORTS && thing >= 0; port++) {
                int entry = plant.portEnd[thing * PORTS + port];
                if (entry >= 0 && leg[entry] < least) {
                    int needs = needed[plant.kind[thing] * 16 + plant.endPort[out] * PORTS + port];
                    boolean free = over[thing] == 0 || plant.kind[thing] != PUMP && stock.position[thing] == needs;
                    if (needs >= 0 && free) {
                        best = entry;
                        least = leg[entry];
                    }
                }
            }
            return best;
        }

        void openFound(int x, int y, int litres) {
            Plant plant = stock.plant;
            for (int i = 0; i < pathLength; i++) {
                int pipe = path[i] >> 1;
                taken[pipe] = true;
                exit[pipe] = path[i];
                nextPipe[pipe] = i + 1 < pathLength ? path[i + 1] >> 1 : NONE;
                if (i + 1 < pathLength) {
                    int thing = plant.endThing[path[i]];
                    before[thing] = stock.position[thing];
                    if (plant.kind[thing] != PUMP) {
                        int ports = plant.endPort[path[i]] * PORTS + plant.endPort[path[i + 1] ^ 1];
                        stock.position[thing] = needed[plant.kind[thing] * 16 + ports];
                    }
                    over[thing]++;
                }
            }
            from[count] = x;
            to[count] = y;
            rate[count] = litres;
            carried[count] = stock.liquid[x];
            length[count] = pathLength;
            firstPipe[count] = path[0] >> 1;
            lastPipe[count] = path[pathLength - 1] >> 1;
            count++;
        }

        /** Takes the way that was opened last back, as if it had never been opened. */
        void undoOpening() {
            remove(count - 1, true);
        }

        void closeOne(int k) {
            remove(k, false);
        }

        void closeAll() {
            for (int k = count - 1; k >= 0; k--) {
                remove(k, false);
            }
        }

        private void remove(int k, boolean undo) {
            Plant plant = stock.plant;
            int pipe = firstPipe[k];
            for (int i = 0; i < length[k] && pipe >= 0; i++) {
                taken[pipe] = false;
                if (nextPipe[pipe] >= 0) {
                    int thing = plant.endThing[exit[pipe]];
                    over[thing]--;
                    if (over[thing] == 0 && plant.kind[thing] != PUMP) {
                        stock.position[thing] = undo ? before[thing] : plant.kind[thing] == 1 ? 2 : 0;
                    }
                }
                pipe = nextPipe[pipe];
            }
            count--;
            for (int i = k; i < count; i++) {
                from[i] = from[i + 1];
                to[i] = to[i + 1];
                rate[i] = rate[i + 1];
                carried[i] = carried[i + 1];
                length[i] = length[i + 1];
                firstPipe[i] = firstPipe[i + 1];
                lastPipe[i] = lastPipe[i + 1];
            }
        }

        void move() {
            for (int k = 0; k < count; k++) {
                int moved = 0;
                while (moved < rate[k] && movesLitre(k)) {
                    moved++;
                }
            }
        }

        private boolean movesLitre(int k) {
            int liquid = carried[k];
            int tank = to[k];
            if (stock.liquid[from[k]] != liquid) {
                return false;
            }
            if (stock.wouldLeave(lastPipe[k], goesForth(lastPipe[k]))
                    && (stock.amount[tank] >= stock.plant.room[tank] || !stock.mayCome(tank, liquid))) {
                return false;
            }
            stock.leave(from[k], 1);
            boolean full = true;
            int pipe = firstPipe[k];
            for (int i = 0; i < length[k] && pipe >= 0; i++) {
                full = stock.push(pipe, goesForth(pipe), full, liquid);
                pipe = nextPipe[pipe];
            }
            if (full) {
                stock.arrive(tank, liquid, 1);
            }
            return true;
        }

        private boolean goesForth(int pipe) {
            return (exit[pipe] & 1) == 1;
        }

        /** Marks in rows of spaces where the liquids of open ways flood from. */
        void addSources(long[] sources) {
            int things = stock.plant.things;
            for (int k = 0; k < count; k++) {
                long spaces = 1L << to[k];
                int pipe = firstPipe[k];
                for (int i = 0; i < length[k] && pipe >= 0; i++) {
                    spaces |= 1L << (things + pipe);
                    pipe = nextPipe[pipe];
                }
                sources[carried[k]] |= spaces;
            }
        }
    }

    /** Looks whether two liquids meet in a failure. Sets of spaces are the bits of a long. */
    private static final class Safety {
        // What all ports pass that a thing with so many pipes at it has.
        private static final int[] BETWEEN = {0, 0, 18, 854, 31710};

        private final Stock stock;
        private final Ways ways;
        private final long[] sources = new long[LIQUIDS + 1];
        private final int[] rivals = new int[LIQUIDS + 1];
        private final long[] flooded = new long[LIQUIDS + 1];
        private final long[] reach = new long[SPACES];
        int failure;
        int where;
        int firstLiquid;
        int secondLiquid;

        Safety(Stock stock, Ways ways) {
            this.stock = stock;
            this.ways = ways;
        }

        boolean isSafe() {
            failure = 0;
            Arrays.fill(sources, 0);
            ways.addSources(sources);
            if (!findRivals()) {
                return true;
            }
            link(NONE, 0);
            if (meet()) {
                failure = 1;
                return false;
            }
            int tried = 0;
            for (int f = 0; f < POSITIONS * stock.plant.things; f++) {
                int passes = otherPasses(f / POSITIONS, f % POSITIONS);
                // The positions of a valve that pass the same stand one behind the other.
                if (passes != 0 && (passes != tried || f % POSITIONS == 0)) {
                    link(f / POSITIONS, passes);
                    if (meet()) {
                        failure = 2 + f;
                        return false;
                    }
                }
                tried = passes;
            }
            return true;
        }

        /** What a valve passes in a failure; 0 when that is none, or lets no more through than as told. */
        private int otherPasses(int valve, int position) {
            int kind = stock.plant.kind[valve];
            if (kind >= PUMP || kind == TWO_SEATS && position == 1) {
                return 0;
            }
            int told = PASSES[kind * POSITIONS + stock.position[valve]];
            int passes = PASSES[kind * POSITIONS + position];
            return (passes & ~told & BETWEEN[Math.min(stock.plant.ports[valve], PORTS)]) != 0 ? passes : 0;
        }

        /** Where each liquid floods from, and which others it may not meet: whether there are such. */
        private boolean findRivals() {
            for (int s = 0; s < stock.plant.things + stock.plant.pipes; s++) {
                sources[stock.liquid[s]] |= 1L << s;
            }
            int present = 0;
            for (int liquid = 1; liquid <= LIQUIDS; liquid++) {
                present |= sources[liquid] != 0 ? 1 << liquid : 0;
            }
            boolean found = false;
            for (int liquid = 1; liquid <= LIQUIDS; liquid++) {
                int others = present & ~stock.meeting[liquid] & ~(1 << liquid);
                rivals[liquid] = sources[liquid] != 0 ? others : 0;
                found = found || rivals[liquid] != 0;
            }
            return found;
        }

        /** Whether two liquids meet as the spaces are linked; then it tells where, and which. */
        private boolean meet() {
            where = SPACES;
            for (int one = 1; one <= LIQUIDS; one++) {
                flooded[one] = sources[one];
                long fresh = rivals[one] == 0 ? 0 : sources[one];
                for (int i = 0; i < SPACES && fresh != 0; i++) {
                    long next = reach[Long.numberOfTrailingZeros(fresh) % SPACES] & ~flooded[one];
                    fresh = fresh & fresh - 1 | next;
                    flooded[one] |= next;
                }
                for (int other = 1; other < one; other++) {
                    long both = (rivals[one] >> other & 1) != 0 ? flooded[one] & flooded[other] : 0;
                    int space = both == 0 ? SPACES : Long.numberOfTrailingZeros(both);
                    if (space < where || space == where && space < SPACES && other < firstLiquid) {
                        where = space;
                        firstLiquid = other;
                        secondLiquid = one;
                    }
                }
            }
            return where < SPACES;
        }

        /** Finds what each space lets flood next, with one valve that passes otherwise than told. */
        private void link(int valve, int passes) {
            Plant plant = stock.plant;
            Arrays.fill(reach, 0);
            for (int e = 0; e < 2 * plant.pipes; e++) {
                int thing = plant.endThing[e];
                int pipe = plant.things + (e >> 1);
                if (thing >= 0 && plant.kind[thing] == TANK) {
                    reach[thing] |= 1L << pipe;
                    reach[pipe] |= 1L << thing;
                } else if (thing >= 0) {
                    int told = PASSES[plant.kind[thing] * POSITIONS + stock.position[thing]];
                    int open = (thing == valve ? passes : told) >> (PORTS * plant.endPort[e]) & 15;
                    for (int port = 0; port < PORTS; port++) {
                        int entry = plant.portEnd[thing * PORTS + port];
                        if ((open >> port & 1) != 0 && entry >= 0) {
                            reach[pipe] |= 1L << (plant.things + (entry >> 1));
                        }
                    }
                }
            }
        }
    }

    /** Interlocks: the rows of a text of kind 1, and how they stand. */
    private static final class Rows {
        private static final int NOT = 16;
        private static final int AND = 17;
        private static final int OR = 18;

        int count;
        int conditions;
        final int[] counts = new int[40];
        final boolean[] latched = new boolean[40];
        final int[] passed = new int[40];
        private final int[] barred = new int[40];
        private final int[] least = new int[40];
        private final boolean[] latching = new boolean[40];
        // Expressions stand one behind the other, operators behind what they join.
        private final int[] start = new int[41];
        private final int[] codes = new int[1400];
        private int used;
        private Tape tape;
        private int wordAt;
        private int wordEnd;
        private int word;
        private int open;
        private int told;
        private int wrong;

        boolean has(int row) {
            return row >= 1 && row <= count;
        }

        boolean isOn(int r) {
            // A part's value is the lowest bit, what waits for it stands above; they are at most 43.
            long stack = 0;
            for (int i = start[r]; i < start[r + 1]; i++) {
                long top = stack & 1;
                if (codes[i] < NOT) {
                    stack = stack << 1 | conditions >> codes[i] & 1;
                } else if (codes[i] == NOT) {
                    stack ^= 1;
                } else if (codes[i] == AND) {
                    stack = stack >>> 1 & (~1L | top);
                } else {
                    stack = stack >>> 1 | top;
                }
            }
            return (stack & 1) != 0;
        }

        void countSecond() {
            for (int r = 0; r < count; r++) {
                boolean on = isOn(r);
                counts[r] = on ? Math.min(counts[r] + 1, 1000000) : 0;
                if (latching[r] && on && counts[r] >= least[r]) {
                    latched[r] = true;
                }
                if (passed[r] > 0) {
                    passed[r]--;
                }
            }
        }

        /** The first row that bars an act, 0 when none does. */
        int barring(int act) {
            for (int r = 0; r < count; r++) {
                boolean concerned = (barred[r] >>> act & 1) != 0 && passed[r] == 0;
                if (concerned && (latched[r] || counts[r] >= least[r] && isOn(r))) {
                    return r + 1;
                }
            }
            return 0;
        }

        /** NONE, or the word where the text is wrong. */
        int read(Tape text) {
            tape = text;
            count = 0;
            used = 0;
            wrong = NONE;
            open = 0;
            word = NONE;
            wordEnd = 0;
            nextWord();
            for (int i = 0; i <= LONGEST && wrong < 0 && wordAt < text.end; i++) {
                readRow();
            }
            return wrong;
        }

        private void nextWord() {
            wordAt = wordEnd;
            while (wordAt < tape.end && Tape.isBlank(tape.at(wordAt))) {
                wordAt++;
            }
            wordEnd = wordAt;
            while (wordEnd < tape.end && !Tape.isBlank(tape.at(wordEnd)) && !isMark(tape.at(wordEnd))) {
                wordEnd++;
            }
            if (wordEnd == wordAt && wordAt < tape.end) {
                wordEnd++;
            }
            word++;
        }

        private static boolean isMark(int c) {
            return c == '(' || c == ')' || c == ';';
        }

        private boolean is(String text) {
            if (wrong >= 0 || wordEnd - wordAt != text.length()) {
                return false;
            }
            for (int i = 0; i < text.length(); i++) {
                if (tape.at(wordAt + i) != text.charAt(i)) {
                    return false;
                }
            }
            return true;
        }

        private boolean takes(String text) {
            if (!is(text)) {
                fail();
                return false;
            }
            nextWord();
            return true;
        }

        private void fail() {
            if (wrong < 0) {
                wrong = word;
            }
        }

        /** The number that the word is behind its first bytes, NONE when it is none up to most. */
        private int numberBehind(int skip, int most) {
            int at = wordAt + skip;
            int digits = wordEnd - at;
            if (digits < 1 || digits > 4 || digits > 1 && tape.at(at) == '0') {
                return NONE;
            }
            int number = 0;
            for (int i = 0; i < digits; i++) {
                if (!Tape.isDigit(tape.at(at + i))) {
                    return NONE;
                }
                number = number * 10 + tape.at(at + i) - '0';
            }
            return number <= most ? number : NONE;
        }

        private void readRow() {
            if (count >= 40) {
                fail();
                return;
            }
            counts[count] = 0;
            latched[count] = false;
            passed[count] = 0;
            barred[count] = 0;
            least[count] = 0;
            takes("bar");
            readActs();
            takes("when");
            start[count] = used;
            told = 0;
            readOr();
            if (is("for")) {
                nextWord();
                least[count] = numberBehind(0, 3600);
                if (least[count] < 0) {
                    fail();
                }
                nextWord();
            }
            latching[count] = is("latched");
            if (latching[count]) {
                nextWord();
            }
            takes(";");
            count++;
            start[count] = used;
        }

        private void readActs() {
            for (int i = 0; i <= 8 && wrong < 0; i++) {
                if (i > 0 && is("when")) {
                    return;
                }
                int act = tape.at(wordAt) == 'a' ? numberBehind(1, 31) : NONE;
                if (act < 0 || i == 8 || (barred[count] >>> act & 1) != 0) {
                    fail();
                    return;
                }
                barred[count] |= 1 << act;
                nextWord();
            }
        }

        private void readOr() {
            readAnd();
            for (int i = 0; i < LONGEST && is("or"); i++) {
                nextWord();
                readAnd();
                put(OR);
            }
        }

        private void readAnd() {
            readPart();
            for (int i = 0; i < LONGEST && is("and"); i++) {
                nextWord();
                readPart();
                put(AND);
            }
        }

        private void readPart() {
            boolean not = is("not");
            if (not || is("(")) {
                if (open >= 20) {
                    fail();
                    return;
                }
                open++;
                nextWord();
                if (not) {
                    readPart();
                    put(NOT);
                } else {
                    readOr();
                    takes(")");
                }
                open--;
                return;
            }
            int condition = tape.at(wordAt) == 'c' ? numberBehind(1, 15) : NONE;
            if (wrong >= 0 || condition < 0 || told >= 32) {
                fail();
                return;
            }
            told++;
            put(condition);
            nextWord();
        }

        private void put(int code) {
            if (used < codes.length) {
                codes[used] = code;
                used++;
            }
        }
    }

    /** A text of kind 2 as nodes, and its names with their values. */
    private static final class Program {
        int statements;
        int nodes;
        // The first statement outside of steps, NONE without.
        int opening = NONE;
        final int[] kind = new int[NODES + 1];
        // The name, or the number of an act.
        final int[] arg = new int[NODES + 1];
        // The sum or test of a statement is the nodes from .. to - 1; of ramp the second sum stands behind.
        final int[] from = new int[NODES + 1];
        final int[] to = new int[NODES + 1];
        final int[] first = new int[NODES + 1];
        final int[] next = new int[NODES + 1];
        final long[] number = new long[NODES + 1];
        int names;
        final long[] nameCode = new long[NAMES];
        final int[] nameKind = new int[NAMES];
        final int[] nameUnit = new int[NAMES];
        final int[] nameBlock = new int[NAMES];
        final long[] worth = new long[NAMES];
        final int[] senseWhat = new int[NAMES];
        final int[] senseX = new int[NAMES];

        void clear() {
            statements = 0;
            nodes = 0;
            opening = NONE;
            names = 0;
        }

        int find(long code) {
            for (int i = 0; i < names; i++) {
                if (nameCode[i] == code) {
                    return i;
                }
            }
            return NONE;
        }

        void addName(long code, int itsKind, int unit, int block) {
            if (names < NAMES) {
                nameCode[names] = code;
                nameKind[names] = itsKind;
                nameUnit[names] = unit;
                nameBlock[names] = block;
                worth[names] = 0;
                senseWhat[names] = 5;
                names++;
            }
        }

        boolean hasValue(int name) {
            return name >= 0 && name < names && nameKind[name] != STEP;
        }

        boolean isSignal(int name) {
            return name >= 0 && name < names && nameKind[name] == SIGNAL;
        }

        boolean isSensed(int name) {
            return isSignal(name) && senseWhat[name] < 5;
        }

        void clearValues() {
            for (int i = 0; i < names; i++) {
                if (!isSensed(i)) {
                    worth[i] = 0;
                }
            }
        }

        /** The first block of a statement; that of its step for a do. */
        int firstBlock(int node) {
            return kind[node] == DO ? nameBlock[arg[node]] : first[node];
        }
    }

    /** Reads a text of kind 2 into a program. */
    private static final class ProgramReader {
        private static final int DEEPEST = 20;
        private static final int DEEPEST_BLOCK = 40;
        private static final long GREATEST = 999999999999L;
        private static final int TEST = 0;
        private static final int SUM = 1;
        private static final int PRODUCT = 2;
        private static final int FACTOR = 3;

        private Tape tape;
        private Program program;
        private int at;
        // The word that is to be read next, and where it is wrong if it cannot stand.
        private int word;
        private int place;
        private long code;
        private long number;
        private boolean pointed;
        private int open;
        private int wrong;
        // How many statements and blocks a node makes, and how many blocks in one another.
        private final int[] size = new int[NODES + 1];
        private final int[] deep = new int[NODES + 1];
        private final long[] keywordCode = new long[ACT];

        ProgramReader() {
            int index = 0;
            long sum = 0;
            for (int i = 0; i < KEYWORDS.length() && index < ACT; i++) {
                if (KEYWORDS.charAt(i) == ' ') {
                    keywordCode[index] = sum;
                    index++;
                    sum = 0;
                } else {
                    sum = sum * 37 + digitOf(KEYWORDS.charAt(i));
                }
            }
        }

        /** NONE, or the place where the text is wrong. */
        int read(Tape text, Program into) {
            tape = text;
            program = into;
            program.clear();
            at = 0;
            open = 0;
            wrong = NONE;
            nextWord();
            for (int i = 0; i <= LONGEST && wrong < 0 && word >= SIGNAL && word <= STEP; i++) {
                int kind = word;
                long told = takeNewName();
                int block = kind == STEP ? readBlock() : NONE;
                int unit = kind == STEP ? 0 : takeUnit();
                if (kind == STEP) {
                    makeNode(STEP, 0);
                } else {
                    take(';');
                }
                program.addName(told, kind, unit, block);
            }
            int all = 0;
            int deepest = 0;
            int before = NONE;
            for (int i = 0; i <= LONGEST && wrong < 0 && word != TEXT_END; i++) {
                int node = readStatement();
                all = Math.min(all + size[node], PARTS + 1);
                deepest = Math.max(deepest, deep[node]);
                if (before < 0) {
                    program.opening = node;
                } else {
                    program.next[before] = node;
                }
                before = node;
            }
            if (wrong < 0 && (all > PARTS || deepest > DEEPEST_BLOCK)) {
                fail();
            }
            return wrong;
        }

        private void fail() {
            if (wrong < 0) {
                wrong = place;
            }
        }

        /** The next word; one that is none is wrong as it is read, before all that the words in front of it leave open. */
        private void nextWord() {
            while (at < tape.end && Tape.isBlank(tape.at(at))) {
                at++;
            }
            place = at;
            int c = tape.at(at);
            if (at >= tape.end) {
                word = TEXT_END;
                return;
            }
            if (Tape.isLetter(c)) {
                scanLetters();
            } else if (Tape.isDigit(c)) {
                scanNumber();
            } else {
                word = c;
                at++;
                if (!isMark(c)) {
                    refuseByte(place);
                }
                return;
            }
            c = tape.at(at);
            if (Tape.isLetter(c) || Tape.isDigit(c) || c == '.') {
                refuseByte(at);
            }
        }

        private void refuseByte(int where) {
            word = BAD;
            place = where;
            fail();
        }

        private static boolean isMark(int c) {
            return c == '{' || c == '}' || c == '(' || c == ')' || c == ';' || c == '+' || c == '-' || c == '*'
                    || c == '/' || c == '<' || c == '=' || c == '>';
        }

        private void scanLetters() {
            code = 0;
            int c = tape.at(at);
            for (int i = 0; i < 12 && (Tape.isLetter(c) || Tape.isDigit(c)); i++) {
                code = code * 37 + digitOf(c);
                at++;
                c = tape.at(at);
            }
            word = NAME;
            for (int i = 0; i < keywordCode.length && word == NAME; i++) {
                word = keywordCode[i] == code ? i + 1 : NAME;
            }
        }

        /** Twelve such digits of base 37 go into a long, and none is 0: words are equal when their codes are. */
        private static int digitOf(int c) {
            return c >= 'a' ? c - 'a' + 1 : c - '0' + 27;
        }

        private void scanNumber() {
            word = NUMBER;
            number = 0;
            for (int i = 0; i < 9 && Tape.isDigit(tape.at(at)); i++) {
                number = number * 10 + tape.at(at) - '0';
                at++;
            }
            number *= 1000;
            pointed = tape.at(at) == '.' && Tape.isDigit(tape.at(at + 1));
            at += pointed ? 1 : 0;
            for (int part = pointed ? 100 : 0; part > 0 && Tape.isDigit(tape.at(at)); part /= 10) {
                number += part * (tape.at(at) - '0');
                at++;
            }
        }

        private void take(int due) {
            if (wrong >= 0 || word != due) {
                fail();
                return;
            }
            nextWord();
        }

        /** A new node; the word behind the 301st one cannot stand. */
        private int makeNode(int kind, int arg) {
            int node = Math.min(program.nodes, NODES);
            program.kind[node] = kind;
            program.arg[node] = arg;
            program.from[node] = node;
            program.to[node] = node;
            program.first[node] = NONE;
            program.next[node] = NONE;
            size[node] = 1;
            deep[node] = 0;
            program.nodes = node + 1;
            if (node == NODES) {
                fail();
            }
            return node;
        }

        /** The name of a declaration that the word begins: its code, and the word behind it is next. */
        private long takeNewName() {
            nextWord();
            long told = code;
            if (word != NAME || program.find(told) >= 0 || program.names >= NAMES) {
                fail();
                return 0;
            }
            nextWord();
            return told;
        }

        private int takeUnit() {
            if (wrong >= 0 || word < 1 || word > LAST_UNIT) {
                return 0;
            }
            int unit = word;
            nextWord();
            return unit;
        }

        /** A name of a kind: its number, and the word behind it is next. */
        private int takeName(int kind) {
            int name = wrong < 0 && word == NAME ? program.find(code) : NONE;
            if (name < 0 || program.nameKind[name] != kind) {
                fail();
                return NONE;
            }
            nextWord();
            return name;
        }

        private int readBlock() {
            if (wrong >= 0 || word != '{' || open >= DEEPEST) {
                fail();
                return 0;
            }
            open++;
            nextWord();
            int first = NONE;
            int before = NONE;
            int all = 1;
            int deepest = 0;
            for (int i = 0; i <= LONGEST && wrong < 0 && word != '}'; i++) {
                int node = readStatement();
                all = Math.min(all + size[node], PARTS + 1);
                deepest = Math.max(deepest, deep[node]);
                if (before < 0) {
                    first = node;
                } else {
                    program.next[before] = node;
                }
                before = node;
            }
            take('}');
            open--;
            int block = makeNode(BLOCK, 0);
            program.first[block] = first;
            size[block] = all;
            deep[block] = deepest + 1;
            return block;
        }

        private int readStatement() {
            int kind = word;
            if (wrong >= 0 || kind < SET || kind > ACT) {
                fail();
                return 0;
            }
            if (kind == IN || kind == ELSE || kind == THEN) {
                fail();
                return 0;
            }
            program.statements++;
            nextWord();
            switch (kind) {
                case SET:
                case RAMP:
                    return readChange(kind);
                case WAIT:
                case UNTIL:
                    return readPause(kind);
                case PAR:
                    return readPar();
                case IF:
                case REPEAT:
                case LIMIT:
                    return readGuarded(kind);
                default:
                    return readShort(kind);
            }
        }

        private int readChange(int kind) {
            int name = takeName(OUTPUT);
            int from = program.nodes;
            demand(readLevel(SUM), name < 0 ? 0 : program.nameUnit[name]);
            int to = program.nodes;
            if (kind == RAMP) {
                take(IN);
                demand(readLevel(SUM), SECONDS);
            }
            take(';');
            return giveRange(makeNode(kind, name), from, to);
        }

        private void demand(int unit, int due) {
            if (unit != due) {
                fail();
            }
        }

        private int giveRange(int node, int from, int to) {
            program.from[node] = from;
            program.to[node] = to;
            return node;
        }

        private int readPause(int kind) {
            int from = program.nodes;
            if (kind == WAIT) {
                demand(readLevel(SUM), SECONDS);
            } else {
                readLevel(TEST);
            }
            int to = program.nodes;
            take(';');
            return giveRange(makeNode(kind, 0), from, to);
        }

        private int readPar() {
            int first = readBlock();
            int before = first;
            int all = 1 + size[first];
            int deepest = deep[first];
            for (int i = 0; i <= LONGEST && wrong < 0 && (i == 0 || word == '{'); i++) {
                int block = readBlock();
                program.next[before] = block;
                before = block;
                all = Math.min(all + size[block], PARTS + 1);
                deepest = Math.max(deepest, deep[block]);
            }
            int node = makeNode(PAR, 0);
            program.first[node] = first;
            size[node] = all;
            deep[node] = deepest;
            return node;
        }

        private int readGuarded(int kind) {
            int from = program.nodes;
            if (kind == REPEAT) {
                demand(readLevel(SUM), 0);
            } else {
                readLevel(TEST);
            }
            int to = program.nodes;
            int first = readBlock();
            int second = NONE;
            if (kind == LIMIT || kind == IF && word == ELSE) {
                take(kind == LIMIT ? THEN : ELSE);
                second = readBlock();
            }
            int node = giveRange(makeNode(kind, 0), from, to);
            program.first[node] = first;
            program.next[first] = second;
            size[node] = Math.min(1 + size[first] + (second < 0 ? 0 : size[second]), PARTS + 1);
            deep[node] = Math.max(deep[first], second < 0 ? 0 : deep[second]);
            return node;
        }

        private int readShort(int kind) {
            int arg = 0;
            if (kind == ASK) {
                arg = takeName(SIGNAL);
            } else if (kind == DO) {
                arg = takeName(STEP);
            } else if (kind == ACT) {
                if (word != NUMBER || pointed || number > 31000) {
                    fail();
                }
                arg = (int) (number / 1000);
                take(NUMBER);
            }
            take(';');
            int node = makeNode(kind, arg);
            if (kind == DO && arg >= 0) {
                size[node] = Math.min(1 + size[program.nameBlock[arg]], PARTS + 1);
                deep[node] = deep[program.nameBlock[arg]];
            }
            return node;
        }

        /** Reads a test, sum or product: its unit. */
        private int readLevel(int level) {
            int next = level + 1;
            int unit = next < FACTOR ? readLevel(next) : readFactor();
            int most = level == TEST ? 1 : LONGEST;
            int joined = 0;
            while (joined < most && wrong < 0 && levelOf(word) == level) {
                int operator = word;
                int where = place;
                nextWord();
                int other = next < FACTOR ? readLevel(next) : readFactor();
                unit = join(operator, where, unit, other);
                joined++;
            }
            if (level == TEST && joined == 0) {
                fail();
            }
            return unit;
        }

        private static int levelOf(int operator) {
            switch (operator) {
                case '<':
                case '=':
                case '>':
                    return TEST;
                case '+':
                case '-':
                    return SUM;
                case '*':
                case '/':
                    return PRODUCT;
                default:
                    return FACTOR;
            }
        }

        /** The node of an operator whose sides were read, and the unit that it gives. */
        private int join(int operator, int where, int left, int right) {
            if (wrong >= 0) {
                return 0;
            }
            boolean agree = left == right;
            int unit = left;
            if (operator == '*') {
                agree = left == 0 || right == 0;
                unit = Math.max(left, right);
            } else if (operator == '/') {
                agree = left == right || right == 0;
                unit = right == 0 ? left : 0;
            }
            if (!agree) {
                wrong = where;
                return 0;
            }
            makeNode(operator, 0);
            return unit;
        }

        private int readFactor() {
            int start = word;
            int name = start == NAME ? program.find(code) : NONE;
            boolean opens = (start == '(' || start == '-') && open < DEEPEST;
            if (wrong >= 0 || start != NUMBER && !opens && !program.hasValue(name)) {
                fail();
                return 0;
            }
            long value = number;
            nextWord();
            if (start == NUMBER) {
                value *= word == MIN ? 60 : word == HOUR ? 3600 : 1;
                if (value > GREATEST) {
                    fail();
                    return 0;
                }
                int unit = word == MIN || word == HOUR ? SECONDS : word >= 1 && word <= LAST_UNIT ? word : 0;
                if (unit > 0) {
                    nextWord();
                }
                program.number[makeNode(NUMBER, 0)] = value;
                return unit;
            }
            if (start == NAME) {
                makeNode(NAME, name);
                return program.nameUnit[name];
            }
            open++;
            int unit = start == '-' ? readFactor() : readLevel(SUM);
            if (start == '-') {
                makeNode(NEGATE, 0);
            } else if (word == ')') {
                nextWord();
            } else {
                fail();
            }
            open--;
            return unit;
        }
    }

    /** The run of a program: its statements and blocks, each as often as its step is done, and how they stand. */
    private static final class Run {
        private static final int STANDS = 0;
        private static final int DONE = 1;
        private static final int INSIDE = 2;

        private final Acts acts;
        private final Alarms alarms;
        private final Stock stock;
        Program program = new Program();
        int state = NO_RUN;
        private int parts;
        private final int[] node = new int[PARTS + 1];
        private final int[] first = new int[PARTS + 1];
        private final int[] next = new int[PARTS + 1];
        // 0 it is to be begun, 1 it was begun, 2 it is a part of par that has ended.
        private final int[] stage = new int[PARTS + 1];
        // Where a block stands; the block that a statement does.
        private final int[] current = new int[PARTS + 1];
        // The walk in which a wait goes on, or a ramp was begun; rounds that are left; 1 for an ask with its answer.
        private final long[] count = new long[PARTS + 1];
        private final long[] length = new long[PARTS + 1];
        private final long[] base = new long[PARTS + 1];
        private final long[] goal = new long[PARTS + 1];
        private int skipped;
        private final long[] stack = new long[64];
        // Waits and ramps go by this: a walk that ends in a fault is a second for those that it did not come to, too.
        private long walks;
        private boolean holding;
        private int begun;
        private int actsBegun;

        Run(Acts acts, Alarms alarms, Stock stock) {
            this.acts = acts;
            this.alarms = alarms;
            this.stock = stock;
        }

        boolean isAlive() {
            return state == ON || state == HELD;
        }

        /** A new program; part 0 stands for all that is outside of steps. */
        void take(Program next) {
            program = next;
            state = NO_RUN;
            parts = 1;
            node[0] = NONE;
            first[0] = expandAll(program.opening, 0);
            this.next[0] = NONE;
        }

        private int expandAll(int opening, int depth) {
            int head = NONE;
            int before = NONE;
            int child = opening;
            for (int i = 0; i <= PARTS && child >= 0 && parts <= PARTS && depth < DEPTH; i++) {
                int part = parts;
                parts++;
                node[part] = child;
                next[part] = NONE;
                if (before < 0) {
                    head = part;
                } else {
                    next[before] = part;
                }
                before = part;
                first[part] = expandAll(program.firstBlock(child), depth + 1);
                child = program.next[child];
            }
            return head;
        }

        void begin() {
            state = ON;
            enter(0);
        }

        private void enter(int block) {
            stage[block] = 1;
            current[block] = first[block];
            if (first[block] >= 0) {
                stage[first[block]] = 0;
            }
        }

        /** One second of the run. */
        void walk() {
            walks++;
            holding = false;
            begun = 0;
            actsBegun = 0;
            lookAtLimits(0, 0);
            boolean ended = !isOver() && goOn(0, 0);
            if (ended) {
                state = ENDED;
            } else if (!isOver() && holding) {
                state = HELD;
            }
        }

        /** Whether a fault or a stop has ended the walk of this second. */
        private boolean isOver() {
            return state != ON;
        }

        private void fault(int kind, int where) {
            alarms.add(stock.now, where, kind);
            state = HELD;
        }

        private void lookAtLimits(int block, int depth) {
            int s = stage[block] == 1 ? current[block] : NONE;
            if (isOver() || s < 0 || stage[s] == 0 || depth >= DEPTH) {
                return;
            }
            int kind = program.kind[node[s]];
            if (kind == LIMIT && current[s] == first[s]) {
                lookAtLimit(s);
            }
            if (kind != PAR && current[s] >= 0) {
                lookAtLimits(current[s], depth + 1);
            }
            int side = kind == PAR ? first[s] : NONE;
            for (int i = 0; i <= PARTS && side >= 0; i++) {
                lookAtLimits(side, depth + 1);
                side = next[side];
            }
        }

        private void lookAtLimit(int s) {
            long test = reckon(program.from[node[s]], program.to[node[s]]);
            if (!isOver() && test == 0) {
                alarms.add(stock.now, node[s], 3);
                choose(s, next[first[s]]);
            }
        }

        private void choose(int s, int block) {
            current[s] = block;
            if (block >= 0) {
                stage[block] = 0;
            }
        }

        private boolean mayBegin(int part) {
            boolean isAct = program.kind[node[part]] == ACT;
            if (begun >= 1000 || isAct && actsBegun >= 10) {
                fault(2, node[part]);
                return false;
            }
            begun++;
            actsBegun += isAct ? 1 : 0;
            return true;
        }

        /** A block goes on as far as it can: whether it has ended. */
        private boolean goOn(int block, int depth) {
            if (depth >= DEPTH) {
                return false;
            }
            if (stage[block] == 0) {
                if (!mayBegin(block)) {
                    return false;
                }
                enter(block);
            }
            for (int i = 0; i <= PARTS && current[block] >= 0; i++) {
                int s = current[block];
                if (!goesPast(s, depth)) {
                    return false;
                }
                choose(block, next[s]);
            }
            return current[block] < 0;
        }

        /** Whether a statement has ended. */
        private boolean goesPast(int s, int depth) {
            int kind = program.kind[node[s]];
            int answer = STANDS;
            if (stage[s] != 0) {
                answer = lookAgain(s, kind);
            } else if (mayBegin(s)) {
                answer = program.from[node[s]] < program.to[node[s]] ? beginReckoned(s, kind) : beginPlain(s, kind);
            }
            if (answer != INSIDE) {
                return answer == DONE;
            }
            if (kind == PAR) {
                return endsAllSides(s, depth);
            }
            if (kind == REPEAT) {
                return endsRounds(s, depth);
            }
            return current[s] < 0 || goOn(current[s], depth + 1);
        }

        private boolean endsAllSides(int s, int depth) {
            boolean all = true;
            int side = first[s];
            for (int i = 0; i <= PARTS && side >= 0; i++) {
                if (stage[side] != 2) {
                    if (goOn(side, depth + 1)) {
                        stage[side] = 2;
                    } else {
                        all = false;
                    }
                }
                if (isOver()) {
                    return false;
                }
                side = next[side];
            }
            return all;
        }

        private boolean endsRounds(int s, int depth) {
            // A round begins a block, so more than 1,001 of them cannot end in a second.
            for (int i = 0; i <= 1001 && count[s] > 0; i++) {
                if (!goOn(first[s], depth + 1)) {
                    return false;
                }
                count[s]--;
                stage[first[s]] = 0;
            }
            return count[s] <= 0;
        }

        private int beginPlain(int s, int kind) {
            int n = node[s];
            switch (kind) {
                case ACT:
                    int reason = acts.perform(program.arg[n]);
                    if (reason > 0) {
                        alarms.add(stock.now, n, 10 + reason);
                    }
                    return DONE;
                case HOLD:
                    holding = true;
                    return DONE;
                case STOP:
                    state = STOPPED;
                    return STANDS;
                case ASK:
                    count[s] = 0;
                    return stand(s);
                case PAR:
                    return beginPar(s);
                default:
                    return goInside(s, first[s]);
            }
        }

        private int stand(int s) {
            stage[s] = 1;
            current[s] = NONE;
            return STANDS;
        }

        private int goInside(int s, int block) {
            stage[s] = 1;
            choose(s, block);
            return INSIDE;
        }

        private int beginPar(int s) {
            int side = first[s];
            for (int i = 0; i <= PARTS && side >= 0; i++) {
                stage[side] = 0;
                side = next[side];
            }
            return goInside(s, NONE);
        }

        private int beginReckoned(int s, int kind) {
            int n = node[s];
            long value = reckon(program.from[n], program.to[n]);
            if (isOver()) {
                return STANDS;
            }
            switch (kind) {
                case SET:
                    setValue(n, value);
                    return DONE;
                case WAIT:
                    count[s] = walks + value / 1000;
                    return count[s] <= walks ? DONE : stand(s);
                case UNTIL:
                    return value != 0 ? DONE : stand(s);
                case RAMP:
                    return beginRamp(s, value);
                case REPEAT:
                    count[s] = value / 1000;
                    return goInside(s, first[s]);
                case IF:
                    return goInside(s, value != 0 ? first[s] : next[first[s]]);
                default:
                    if (value == 0) {
                        alarms.add(stock.now, n, 3);
                    }
                    return goInside(s, value != 0 ? first[s] : next[first[s]]);
            }
        }

        private void setValue(int n, long value) {
            program.worth[program.arg[n]] = value;
        }

        private int beginRamp(int s, long value) {
            int n = node[s];
            long seconds = reckon(program.to[n], n) / 1000;
            if (isOver()) {
                return STANDS;
            }
            if (seconds < 1) {
                setValue(n, value);
                return DONE;
            }
            count[s] = walks;
            length[s] = seconds;
            base[s] = program.worth[program.arg[n]];
            goal[s] = value;
            return stand(s);
        }

        private int lookAgain(int s, int kind) {
            int n = node[s];
            switch (kind) {
                case WAIT:
                    return count[s] <= walks ? DONE : STANDS;
                case UNTIL:
                    return reckon(program.from[n], program.to[n]) != 0 ? DONE : STANDS;
                case RAMP:
                    return rampOn(s, walks - count[s]);
                case ASK:
                    return count[s] != 0 ? DONE : STANDS;
                default:
                    return INSIDE;
            }
        }

        private int rampOn(int s, long seconds) {
            if (seconds >= length[s] || length[s] < 1) {
                setValue(node[s], goal[s]);
                return DONE;
            }
            setValue(node[s], base[s] + Math.floorDiv((goal[s] - base[s]) * seconds, length[s]));
            return STANDS;
        }

        /** The value of the last of some nodes; 0 at a division by 0, and the walk is over. */
        private long reckon(int from, int to) {
            int top = 0;
            stack[0] = 0;
            for (int n = from; n < to && top < stack.length; n++) {
                int kind = program.kind[n];
                if (kind == NUMBER || kind == NAME) {
                    stack[top] = kind == NUMBER ? program.number[n] : program.worth[program.arg[n]];
                    top++;
                } else if (kind == NEGATE && top > 0) {
                    stack[top - 1] = -stack[top - 1];
                } else if (top > 1) {
                    top--;
                    if (kind == '/' && stack[top] == 0) {
                        fault(1, n);
                        return 0;
                    }
                    stack[top - 1] = apply(kind, stack[top - 1], stack[top]);
                }
            }
            return stack[0];
        }

        private static long apply(int kind, long a, long b) {
            switch (kind) {
                case '+':
                    return a + b;
                case '-':
                    return a - b;
                case '*':
                    return a * b / 1000;
                case '/':
                    return b == 0 ? 0 : a * 1000 / b;
                case '<':
                    return a < b ? 1000 : 0;
                case '=':
                    return a == b ? 1000 : 0;
                default:
                    return a > b ? 1000 : 0;
            }
        }

        /** Number skipped, from 0, of the parts that stand still; with asks alone, those without an answer. */
        private int seek(int block, boolean asks, int depth) {
            int s = stage[block] == 1 ? current[block] : NONE;
            if (s < 0 || stage[s] == 0 || depth >= DEPTH) {
                return NONE;
            }
            if (current[s] >= 0) {
                return seek(current[s], asks, depth + 1);
            }
            int kind = program.kind[node[s]];
            int side = kind == PAR ? first[s] : NONE;
            int found = NONE;
            for (int i = 0; i <= PARTS && side >= 0 && found < 0; i++) {
                found = seek(side, asks, depth + 1);
                side = next[side];
            }
            if (kind == PAR || asks && (kind != ASK || count[s] != 0)) {
                return found;
            }
            skipped--;
            return skipped < 0 ? s : NONE;
        }

        int standingNode(int k) {
            skipped = k;
            int s = isAlive() && k >= 0 ? seek(0, false, 0) : NONE;
            return s < 0 ? NONE : node[s];
        }

        boolean giveAnswer(long value) {
            skipped = 0;
            int s = state == ON ? seek(0, true, 0) : NONE;
            if (s < 0) {
                return false;
            }
            count[s] = 1;
            setValue(node[s], value);
            return true;
        }
    }

    /** What went wrong, and when. */
    private static final class Alarms {
        int count;
        private final int[] seconds = new int[200];
        private final int[] nodes = new int[200];
        private final int[] kinds = new int[200];

        void add(int now, int node, int kind) {
            if (count < seconds.length) {
                seconds[count] = now;
                nodes[count] = node;
                kinds[count] = kind;
                count++;
            }
        }

        int get(int k, int what) {
            if (k < 0 || k >= count || what < 0 || what > 2) {
                return NONE;
            }
            return what == 0 ? seconds[k] : what == 1 ? nodes[k] : kinds[k];
        }
    }

    /** What acts are bound to, and how they are done. */
    private static final class Acts {
        private static final int ACTS = 32;

        private final Stock stock;
        private final Ways ways;
        private final Safety safety;
        Rows rows = new Rows();
        private final int[] what = new int[ACTS];
        private final int[] x = new int[ACTS];
        private final int[] y = new int[ACTS];
        private final int[] z = new int[ACTS];

        Acts(Stock stock, Ways ways, Safety safety) {
            this.stock = stock;
            this.ways = ways;
            this.safety = safety;
            Arrays.fill(what, NONE);
        }

        static boolean isAct(int k) {
            return k >= 0 && k < ACTS;
        }

        boolean tie(int k, int kind, int itsX, int itsY, int itsZ) {
            if (!isAct(k) || kind < OPEN || kind > DRAIN) {
                return false;
            }
            if (kind == OPEN && (itsZ < 1 || itsZ > 100) || kind == POSITION && (itsY < 0 || itsY >= POSITIONS)
                    || kind == CLEAN && (itsY < 1 || itsY > LEVELS)) {
                return false;
            }
            what[k] = kind;
            x[k] = itsX;
            y[k] = itsY;
            z[k] = itsZ;
            return true;
        }

        private boolean isBound(int k) {
            switch (what[k]) {
                case OPEN:
                case CLOSE:
                    return stock.isTank(x[k]) && stock.isTank(y[k]) && x[k] != y[k];
                case POSITION:
                    return stock.isValve(x[k]);
                case CLEAN:
                case DRAIN:
                    return stock.isHolder(x[k]);
                default:
                    return false;
            }
        }

        /** Does an act: 0, or the reason why it is refused. */
        int perform(int k) {
            if (!isAct(k) || !isBound(k)) {
                return 1;
            }
            if (rows.barring(k) > 0) {
                return 2;
            }
            switch (what[k]) {
                case OPEN:
                    return openWay(x[k], y[k], z[k]);
                case CLOSE:
                    return closeWay(x[k], y[k]);
                case POSITION:
                    return setPosition(x[k], y[k]);
                case CLEAN:
                    return cleanSpace(x[k], y[k]);
                default:
                    return drainSpace(x[k]);
            }
        }

        private int openWay(int one, int two, int litres) {
            if (ways.indexOf(one, two) >= 0) {
                return 3;
            }
            if (stock.liquid[one] == 0) {
                return 4;
            }
            if (!ways.find(one, two)) {
                return 5;
            }
            for (int i = 0; i < ways.pathLength; i++) {
                if (!stock.mayCome(stock.plant.things + (ways.path[i] >> 1), stock.liquid[one])) {
                    return 6;
                }
            }
            if (!stock.mayCome(two, stock.liquid[one])) {
                return 6;
            }
            ways.openFound(one, two, litres);
            if (safety.isSafe()) {
                return 0;
            }
            ways.undoOpening();
            return 7;
        }

        private int closeWay(int one, int two) {
            int k = ways.indexOf(one, two);
            if (k < 0) {
                return 3;
            }
            ways.closeOne(k);
            return 0;
        }

        private int setPosition(int valve, int position) {
            if (ways.goesOver(valve)) {
                return 3;
            }
            int before = stock.position[valve];
            stock.position[valve] = position;
            if (safety.isSafe()) {
                return 0;
            }
            stock.position[valve] = before;
            return 7;
        }

        private int cleanSpace(int space, int level) {
            if (stock.liquid[space] != 0 || ways.hasSpace(space)) {
                return 3;
            }
            stock.cleanSpace(space, level);
            return 0;
        }

        private int drainSpace(int space) {
            if (ways.hasSpace(space)) {
                return 3;
            }
            stock.leave(space, stock.amount[space]);
            stock.emptyCells(space);
            return 0;
        }
    }
}
