/** Terms, INTERLOCKS and ROWS, and promises 9, 18 to 21: every boundary that they name, on both sides. */
public final class RowEdgesTest {
    public static void main(String[] args) {
        Check check = new Check();
        numbers(check);
        endOfText(check);
        wrongWord(check);
        wordsAndBlanks(check);
        acts(check);
        tooManyRows(check);
        tooManyConditions(check);
        tooManyOpen(check);
        eachCondition(check);
        eachAct(check);
        binding(check);
        holding(check);
        latching(check);
        counting(check);
        bypasses(check);
        watching(check);
        looking(check);
        check.done();
    }

    private static void right(Check check, String text, int rows) {
        check.reads(new BreweryHouse(), 1, text, rows);
    }

    private static void wrong(Check check, String text, int word) {
        check.reads(new BreweryHouse(), 1, text, -3 - word);
    }

    private static void numbers(Check check) {
        String[][] places = {{"bar a", " when c0;", "0", "31", "1"}, {"bar a0 when c", ";", "0", "15", "3"},
            {"bar a0 when c0 for ", ";", "0", "3600", "5"}};
        for (String[] p : places) {
            int word = Integer.parseInt(p[4]);
            right(check, p[0] + p[2] + p[1], 1);
            right(check, p[0] + p[3] + p[1], 1);
            right(check, p[0] + "9" + p[1], 1);
            right(check, p[0] + "10" + p[1], 1);
            wrong(check, p[0] + (Integer.parseInt(p[3]) + 1) + p[1], word);
            for (String none : new String[] {"00", "01", "-1", "+1", "1.0", "x", "1x", "/", ":", "0000", "10000", "99999999999", "4294967296",
                "18446744073709551616"}) {
                wrong(check, p[0] + none + p[1], word);
            }
        }
        wrong(check, "bar a when c0;", 1);
        wrong(check, "bar a0 when c;", 3);
        wrong(check, "bar a0 when c0 for ;", 5);
        wrong(check, "bar 0 when c0;", 1);
        wrong(check, "bar A0 when c0;", 1);
        wrong(check, "bar b0 when c0;", 1);
        wrong(check, "bar a0 when 0;", 3);
        wrong(check, "bar a0 when C0;", 3);
        wrong(check, "bar a0 when d0;", 3);
        wrong(check, "bar a0 when c0 for a1;", 5);
    }

    private static final String[] WORDS = ("bar a1 a2 when not ( c1 and c2 or not not c3 ) or c4 and ( c5 ) for 7 latched ; bar a1 when c1 ; "
            + "bar a1 when c1 latched ; bar a1 when c1 for 0 ;").split(" ");

    private static String join(String[] words, int n) {
        return String.join(" ", java.util.Arrays.copyOf(words, n));
    }

    /** The end is a word, too: wrong where a row is not over. */
    private static void endOfText(Check check) {
        int rows = 0;
        for (int n = 0; n <= WORDS.length; n++) {
            boolean ends = n == 0 || WORDS[n - 1].equals(";");
            rows += ends && n > 0 ? 1 : 0;
            check.reads(new BreweryHouse(), 1, join(WORDS, n), ends ? rows : -3 - n);
            check.reads(new BreweryHouse(), 1, join(WORDS, n) + " \n ", ends ? rows : -3 - n);
        }
        right(check, "", 0);
        right(check, " ", 0);
        right(check, "\n\n", 0);
    }

    private static void wrongWord(Check check) {
        for (int i = 0; i < WORDS.length; i++) {
            for (String other : new String[] {"?", "Bar", "{", "barr", "whe", "a", "c"}) {
                String[] words = WORDS.clone();
                words[i] = other;
                check.reads(new BreweryHouse(), 1, join(words, words.length), -3 - i);
            }
        }
    }

    private static void wordsAndBlanks(Check check) {
        right(check, "\n bar\na0\n\nwhen(c0)or(not(c1))for 5\nlatched;bar a0 when c0;", 2);
        right(check, "bar a0 when((c0));", 1);
        right(check, "bar a0 when not(c0)and c1;", 1);
        // Only ( ) ; 32 and 10 end a word.
        wrong(check, "bar\ta0 when c0;", 0);
        wrong(check, "bar a0\rwhen c0;", 1);
        wrong(check, "bar a0,a1 when c0;", 1);
        wrong(check, "bar a0 when c0.;", 3);
        wrong(check, "bar a0 when notc0;", 3);
        wrong(check, "bar a0 when c0 for5;", 4);
        wrong(check, "bar a0 when c0 for 5latched;", 5);
        wrong(check, "bara0 when c0;", 0);
        wrong(check, "bar a0 when c0);", 4);
        wrong(check, "bar a0 when (c0));", 6);
        wrong(check, "bar a0 when ((c0);", 7);
        wrong(check, "bar (a0) when c0;", 1);
        wrong(check, "bar a0 when (c0 for 5);", 5);
        wrong(check, "bar a0 when c0 for 5 for 5;", 6);
        wrong(check, "bar a0 when c0 or or c1;", 5);
        wrong(check, "bar a0 when c0 and or c1;", 5);
        wrong(check, "bar a0 when and c1;", 3);
        wrong(check, "bar a0 when c0 or and c1;", 5);
        wrong(check, "bar a0 when not and c1;", 4);
    }

    private static void acts(Check check) {
        right(check, "bar a0 a1 a2 a3 a4 a5 a6 a7 when c0;", 1);
        wrong(check, "bar a0 a1 a2 a3 a4 a5 a6 a7 a8 when c0;", 9);
        wrong(check, "bar a0 a1 a2 a3 a4 a5 a6 a7 x when c0;", 9);
        wrong(check, "bar a0 a1 a2 a3 a4 a5 a6 a7", 9);
        for (int again = 0; again < 7; again++) {
            wrong(check, "bar a31 a30 a29 a28 a27 a26 a25 a" + (31 - again) + " when c0;", 8);
        }
        right(check, "bar a31 a30 a29 a28 a27 a26 a25 a24 when c0;bar a31 a30 when c0;", 2);
        right(check, "bar a0 a31 when c0;", 1);
        wrong(check, "bar a0 a31 a0 when c0;", 3);
    }

    private static void tooManyRows(Check check) {
        String row = "bar a0 when c0;";
        right(check, Check.times(row, 39), 39);
        right(check, Check.times(row, 40), 40);
        wrong(check, Check.times(row, 41), 200);
        wrong(check, Check.times(row, 40) + "bar", 200);
        wrong(check, Check.times(row, 40) + "x", 200);
        wrong(check, Check.times(row, 39) + "bar", 196);
        right(check, Check.times(row, 40) + " \n", 40);
        BreweryHouse h = new BreweryHouse();
        Check.read(h, 1, Check.times(row, 39) + "bar a31 when not c15 for 2 latched;");
        h.tick(1);
        check.due("row 40 does not hold yet", h.bars(31), 0);
        h.tick(1);
        check.due("row 40 bars", h.bars(31), 40);
        check.due("row 40 counts", h.row(40, 0), 2);
        check.due("row 40 is latched", h.row(40, 1), 1);
        check.due("no row 41", h.row(41, 0), -1);
        check.due("pass of row 40", h.pass(40, 1, 2, 5), 0);
        check.due("pass of row 41", h.pass(41, 1, 2, 5), -1);
        check.due("pass of row 40: left", h.row(40, 2), 5);
    }

    private static void tooManyConditions(Check check) {
        String most = "bar a0 when c0" + Check.times(" and c1", 31);
        right(check, most + ";", 1);
        wrong(check, most + " and c1;", 3 + 64);
        wrong(check, most + " or c1;", 3 + 64);
        wrong(check, most + " or not (c1);", 3 + 66);
        right(check, most + ";" + most + ";", 2);
        wrong(check, most + ";" + most + " or c1;", 3 + 64 + 3 + 64);
        // Forty rows of 32 conditions, in as few bytes as it goes.
        String many = "";
        for (int i = 0; i < 10; i++) {
            many += "bar a0 when not(not c0)" + Check.times(" or c1", 31) + ";";
        }
        right(check, many, 10);
        BreweryHouse h = new BreweryHouse();
        Check.read(h, 1, "bar a0 when c15" + Check.times(" or c0", 30) + " or not c1;");
        check.due("the 32nd condition counts", h.row(1, 3), 1);
        Check.read(h, 1, "bar a0 when not c15" + Check.times(" and not c0", 30) + " and c1;");
        check.due("the 32nd condition counts with and", h.row(1, 3), 0);
    }

    private static void tooManyOpen(Check check) {
        for (int nots = 0; nots <= 20; nots++) {
            String open = Check.times("not ", nots) + Check.times("(", 20 - nots);
            String shut = Check.times(")", 20 - nots);
            right(check, "bar a0 when " + open + "c0" + shut + ";", 1);
            wrong(check, "bar a0 when " + open + "not c0" + shut + ";", 3 + 20);
            wrong(check, "bar a0 when " + open + "(c0)" + shut + ";", 3 + 20);
            // What has ended is not open any more.
            right(check, "bar a0 when " + open + "c0" + shut + " or " + open + "c0" + shut + " and " + open + "c0" + shut + ";", 1);
            String words = "bar a0 when " + open + "c0" + shut + " or ";
            wrong(check, words + open + "not c0;", 3 + 20 + 1 + 20 - nots + 1 + 20);
            right(check, "bar a0 when " + open + "c0" + shut + ";bar a0 when " + open + "c0" + shut + ";", 2);
        }
        // A not is open up to the end of its part, not of the row; a ( up to its ).
        right(check, "bar a0 when " + Check.times("not c0 and ", 30) + "not c0;", 1);
        right(check, "bar a0 when " + Check.times("(c0) or ", 30) + "(c0);", 1);
        wrong(check, "bar a0 when " + Check.times("(", 19) + "not c0 and not not c0;", 3 + 19 + 4);
        right(check, "bar a0 when " + Check.times("(", 19) + "not c0 and not c0" + Check.times(")", 19) + ";", 1);
    }

    /** Each condition 0 .. 15 is its own: row 1 is on with it alone. */
    private static void eachCondition(Check check) {
        for (int c = 0; c < 16; c++) {
            BreweryHouse h = new BreweryHouse();
            Check.read(h, 1, "bar a0 when c" + c + ";");
            for (int other = 0; other < 16; other++) {
                h.watch(other, other == c ? 5 : 4, 0, 0);
            }
            h.tick(1);
            check.due("all but c" + c, h.row(1, 3), 0);
            for (int other = 0; other < 16; other++) {
                h.watch(other, other == c ? 4 : 5, 0, 0);
            }
            check.due("from the next second on, c" + c, h.row(1, 3), 0);
            h.tick(1);
            check.due("c" + c + " alone", h.row(1, 3), 1);
            h.watch(c, 5, 0, 0);
            check.due("off from the next second on, c" + c, h.row(1, 3), 1);
            h.tick(1);
            check.due("off, c" + c, h.row(1, 3), 0);
        }
        for (int c : new int[] {-1, 16, Integer.MIN_VALUE, Integer.MAX_VALUE}) {
            check.due("watch of c" + c, new BreweryHouse().watch(c, 4, 0, 0), false);
        }
    }

    private static void eachAct(Check check) {
        for (int k = 0; k < 32; k++) {
            BreweryHouse h = Hands.house("tank 9\n");
            Check.read(h, 1, "bar a" + k + " when not c0;");
            for (int other = 0; other < 32; other++) {
                h.bind(other, 4, 0, 0, 0);
                check.due("bars of " + other + ", a" + k, h.bars(other), other == k ? 1 : 0);
                check.due("act " + other + ", a" + k, h.act(other), other == k ? 2 : 0);
            }
            check.due("bars of -1, 32", h.bars(-1) + h.bars(32) + h.bars(Integer.MIN_VALUE) + h.bars(Integer.MAX_VALUE), -4);
        }
    }

    /** or binds less than and, not most. */
    private static void binding(Check check) {
        // Of c0 .. c2 those in the set are on; what is due for the sets 0 .. 7.
        String[][] due = {{"c0 or c1 and c2", "01010111"}, {"c1 and c2 or c0", "01010111"}, {"(c0 or c1) and c2", "00000111"},
            {"not c0 and c1", "00100010"}, {"not (c0 and c1)", "11101110"}, {"not c0 or c1", "10111011"}, {"not not c0", "01010101"}};
        for (String[] d : due) {
            BreweryHouse h = new BreweryHouse();
            Check.read(h, 1, "bar a0 when " + d[0] + ";");
            for (int set = 0; set < 8; set++) {
                for (int c = 0; c < 3; c++) {
                    h.watch(c, (set >> c & 1) != 0 ? 4 : 5, 0, 0);
                }
                h.tick(1);
                check.due(d[0] + " with " + set, h.row(1, 3), d[1].charAt(set) - '0');
            }
        }
    }

    /** A row holds when it is on and its count is at least its number. */
    private static void holding(Check check) {
        for (int number : new int[] {0, 1, 2, 600, 3600}) {
            BreweryHouse h = new BreweryHouse();
            h.watch(0, 4, 0, 3);
            h.tick(3);
            Check.read(h, 1, "bar a0 when c0 for " + number + ";bar a1 when c0;");
            check.due("off, for " + number, h.bars(0) + h.bars(1), 0);
            if (number > 1) {
                Hands.ticks(h, number - 1);
                check.due("count, for " + number, h.row(1, 0), number - 1);
                check.due("one second less, for " + number, h.bars(0), 0);
                check.due("without a number", h.bars(1), 2);
            }
            h.tick(1);
            check.due("count, for " + number, h.row(1, 0), Math.max(1, number));
            check.due("as many seconds, for " + number, h.bars(0), 1);
            h.watch(0, 5, 0, 0);
            check.due("up to the next second, for " + number, h.bars(0), 1);
            h.tick(1);
            check.due("off, for " + number, h.bars(0) * 10 + h.row(1, 0), 0);
        }
        // New rows that are on hold at once with 0, in the next second with 1.
        BreweryHouse h = new BreweryHouse();
        Check.read(h, 1, "bar a0 when not c0;bar a1 when not c0 for 0;bar a2 when not c0 for 1;");
        check.due("at once without a number", h.bars(0), 1);
        check.due("at once for 0", h.bars(1), 2);
        check.due("not for 1", h.bars(2), 0);
        h.tick(1);
        check.due("for 1 behind a second", h.bars(2), 3);
        // The first of several rows that bars.
        Check.read(h, 1, "bar a0 when c0;bar a1 a0 when not c0;bar a0 when not c0;");
        check.due("the first row that bars", h.bars(0), 2);
    }

    private static void latching(Check check) {
        BreweryHouse h = new BreweryHouse();
        Check.read(h, 1, "bar a0 when not c0 for 3 latched;bar a1 when not c0 for 3;");
        h.tick(2);
        check.due("not latched before it holds", h.row(1, 1), 0);
        check.due("reset of what is not latched", h.reset(1), false);
        h.tick(1);
        check.due("latched behind the second at whose end it holds", h.row(1, 1), 1);
        check.due("without latched", h.row(2, 1), 0);
        check.due("reset while it is on", h.reset(1), false);
        check.due("it stays latched", h.row(1, 1), 1);
        h.watch(0, 4, 0, 0);
        check.due("reset while it is on, up to the next second", h.reset(1), false);
        h.tick(1);
        check.due("off", h.row(1, 3), 0);
        check.due("count 0", h.row(1, 0), 0);
        check.due("latched still", h.row(1, 1), 1);
        check.due("it bars", h.bars(0), 1);
        check.due("the other one does not", h.bars(1), 0);
        check.due("reset of row 0, 3, far", h.reset(0) || h.reset(3) || h.reset(-1) || h.reset(Integer.MAX_VALUE) || h.reset(Integer.MIN_VALUE), false);
        check.due("reset of row 2", h.reset(2), false);
        check.due("reset", h.reset(1), true);
        check.due("not latched", h.row(1, 1) + h.bars(0), 0);
        check.due("reset again", h.reset(1), false);
        // A row with latched that is off is not latched, with whatever number.
        BreweryHouse off = new BreweryHouse();
        Check.read(off, 1, "bar a0 when c0 latched;bar a1 when c0 for 0 latched;bar a2 when c0 for 1 latched;");
        off.tick(5);
        for (int row = 1; row <= 3; row++) {
            check.due("off: not latched, row " + row, off.row(row, 1) + off.bars(row - 1), 0);
        }
        // A row with latched that is on for too few seconds is not latched.
        h.watch(0, 5, 0, 0);
        h.tick(2);
        h.watch(0, 4, 0, 0);
        h.tick(1);
        check.due("two seconds are too few", h.row(1, 1), 0);
        // One that holds at once is latched behind a second alone.
        Check.read(h, 1, "bar a0 when c0 latched;");
        check.due("holds at once", h.bars(0), 1);
        check.due("not latched at once", h.row(1, 1), 0);
        h.tick(0);
        check.due("no second", h.row(1, 1), 0);
        h.tick(1);
        check.due("a second", h.row(1, 1), 1);
        h.watch(0, 5, 0, 0);
        h.tick(1);
        Check.read(h, 1, "bar a0 when c0 latched;");
        check.due("new rows begin anew", h.row(1, 1) + h.bars(0) + h.row(1, 0), 0);
    }

    private static void counting(Check check) {
        BreweryHouse h = new BreweryHouse();
        Check.read(h, 1, "bar a0 when not c0;bar a0 when c0;");
        for (int i = 0; i < 5; i++) {
            check.due("count " + i, h.row(1, 0), i);
            check.due("off: 0", h.row(2, 0), 0);
            h.tick(1);
        }
        h.watch(0, 4, 0, 6);
        h.tick(1);
        check.due("5 is less than 6", h.row(1, 0), 6);
        h.tick(1);
        check.due("0 when it is off", h.row(1, 0), 0);
        check.due("the other one counts", h.row(2, 0), 1);
        h.watch(0, 5, 0, 0);
        h.tick(1);
        check.due("from 0 again", h.row(1, 0), 1);
        check.reads(h, 1, "bar a0 when not c0;bar", -3 - 7);
        check.due("wrong rows: the count stays", h.row(1, 0), 1);
        h.tick(600);
        check.due("601", h.row(1, 0), 601);
        Check.read(h, 1, "bar a0 when not c0;bar a0 when c0;");
        check.due("new rows: 0", h.row(1, 0), 0);
    }

    private static void bypasses(Check check) {
        int[][] refused = {{0, 1, 2, 5, -1}, {3, 1, 2, 5, -1}, {-1, 1, 2, 5, -1}, {Integer.MAX_VALUE, 1, 2, 5, -1}, {0, 0, 0, 0, -1},
            {1, 0, 2, 5, -2}, {1, 1, 0, 5, -2}, {1, 1000, 2, 5, -2}, {1, 1, 1000, 5, -2}, {1, 7, 7, 5, -2}, {1, -1, 2, 5, -2},
            {1, 0, 0, 0, -2}, {1, Integer.MIN_VALUE, 2, 5, -2}, {1, 1, Integer.MAX_VALUE, 5, -2}, {1, 1, 2, 0, -3}, {1, 1, 2, 3601, -3},
            {1, 1, 2, -1, -3}, {1, 1, 2, Integer.MIN_VALUE, -3}, {1, 1, 2, Integer.MAX_VALUE, -3}};
        BreweryHouse h = new BreweryHouse();
        Check.read(h, 1, "bar a0 when not c0;bar a1 when not c0;");
        for (int[] r : refused) {
            check.due("pass(" + r[0] + ", " + r[1] + ", " + r[2] + ", " + r[3] + ")", h.pass(r[0], r[1], r[2], r[3]), r[4]);
            check.due("not by-passed", h.row(1, 2) + h.row(2, 2), 0);
            check.due("it bars", h.bars(0), 1);
        }
        check.due("pass", h.pass(1, 999, 998, 2), 0);
        for (int[] r : refused) {
            check.due("by-passed: pass(" + r[0] + ", " + r[1] + ", " + r[2] + ", " + r[3] + ")", h.pass(r[0], r[1], r[2], r[3]), r[4]);
        }
        check.due("by-passed already", h.pass(1, 1, 2, 3600), -4);
        check.due("two seconds are left", h.row(1, 2), 2);
        check.due("it does not bar", h.bars(0), 0);
        check.due("the other row does", h.bars(1), 2);
        check.due("it is on", h.row(1, 3), 1);
        h.tick(1);
        check.due("one second is left", h.row(1, 2), 1);
        check.due("by-passed with one second left", h.pass(1, 1, 2, 5), -4);
        check.due("it does not bar with one second left", h.bars(0), 0);
        h.tick(1);
        check.due("none is left", h.row(1, 2), 0);
        check.due("it bars again", h.bars(0), 1);
        check.due("it counted all the time", h.row(1, 0), 2);
        for (int seconds : new int[] {1, 3600}) {
            check.due("pass for " + seconds, h.pass(1, 1, 999, seconds), 0);
            Hands.ticks(h, seconds - 1);
            check.due("not over, " + seconds, h.row(1, 2) * 10 + h.bars(0), 10);
            h.tick(1);
            check.due("over, " + seconds, h.row(1, 2) * 10 + h.bars(0), 1);
        }
        h.pass(1, 1, 2, 9);
        Check.read(h, 1, "bar a0 when not c0;");
        check.due("new rows are not by-passed", h.row(1, 2), 0);
    }

    private static void watching(Check check) {
        BreweryHouse h = Hands.house("tank 9\npump\nvalve 6\npipe 0 2 1\n");
        Check.read(h, 1, "bar a0 when c0;");
        h.fill(0, 7, 5);
        Hands.turn(h, 2, 8);
        // What, x, what is sensed: on for that and less, off for one more.
        int[][] sensed = {{0, 0, 5}, {1, 0, 7}, {1, 3, 0}, {2, 2, 8}, {3, -7, 0}, {3, 99, 0}};
        for (int[] s : sensed) {
            for (long more : new long[] {Long.MIN_VALUE, -1, 0, 1, Long.MAX_VALUE}) {
                long least = more == Long.MIN_VALUE || more == Long.MAX_VALUE ? more : s[2] + more;
                check.due("watch", h.watch(0, s[0], s[1], least), true);
                h.tick(1);
                check.due("what " + s[0] + " of " + s[1] + " at least " + least, h.row(1, 3), least <= s[2] ? 1 : 0);
            }
        }
        for (int[] none : new int[][] {{0, 1}, {0, 2}, {0, 3}, {0, -1}, {0, 4}, {1, 4}, {1, -1}, {2, 0}, {2, 1}, {2, 3}, {2, -1},
            {0, Integer.MAX_VALUE}, {1, Integer.MIN_VALUE}, {2, Integer.MAX_VALUE}}) {
            for (long least : new long[] {Long.MIN_VALUE, -1, 0}) {
                h.watch(0, none[0], none[1], least);
                h.tick(1);
                check.due("what " + none[0] + " of " + none[1] + " at least " + least + ": no such x", h.row(1, 3), 0);
            }
        }
        h.watch(0, 4, 0, h.second() + 1);
        h.tick(1);
        check.due("the second, one too early", h.row(1, 3), 0);
        h.tick(1);
        check.due("the second", h.row(1, 3), 1);
        for (int what : new int[] {-1, 6, Integer.MIN_VALUE, Integer.MAX_VALUE}) {
            check.due("watch what " + what, h.watch(0, what, 0, Long.MAX_VALUE), false);
            h.tick(1);
            check.due("what was told stays", h.row(1, 3), 1);
        }
        // In a new plant there is such an x, or not.
        h.watch(0, 0, 0, 0);
        h.tick(1);
        check.due("a tank", h.row(1, 3), 1);
        Check.read(h, 0, "pump\n");
        check.due("up to the next second", h.row(1, 3), 1);
        h.tick(1);
        check.due("no tank any more", h.row(1, 3), 0);
    }

    private static void looking(Check check) {
        BreweryHouse h = new BreweryHouse();
        check.due("no rows", h.row(1, 0) + h.row(0, 0), -2);
        Check.read(h, 1, "bar a0 when not c0;");
        for (int k : new int[] {0, 2, -1, Integer.MIN_VALUE, Integer.MAX_VALUE}) {
            for (int what = 0; what < 4; what++) {
                check.due("row(" + k + ", " + what + ")", h.row(k, what), -1);
            }
        }
        for (int what : new int[] {-1, 4, Integer.MIN_VALUE, Integer.MAX_VALUE}) {
            check.due("row(1, " + what + ")", h.row(1, what), -1);
        }
        check.due("row(1, 3)", h.row(1, 3), 1);
        Check.read(h, 1, "");
        check.due("no rows again", h.row(1, 3), -1);
        check.due("none bars", h.bars(0), 0);
    }
}
