/** Promises 3 (kind 1), 9 and 18 to 21: interlocks. */
public final class InterlockTest {
    public static void main(String[] args) {
        Check check = new Check();
        texts(check);
        wrongWords(check);
        expressions(check);
        counting(check);
        bypasses(check);
        watching(check);
        refused(check);
        check.done();
    }

    private static void wrongWord(Check check, String text, int word) {
        check.reads(new BreweryHouse(), 1, text, -3 - word);
    }

    private static void texts(Check check) {
        BreweryHouse h = new BreweryHouse();
        check.reads(h, 1, "", 0);
        check.reads(h, 1, " \n ", 0);
        check.reads(h, 1, "bar a0 when c0;", 1);
        check.reads(h, 1, "bar\na31 a0\nwhen(c15)for 3600 latched ;", 1);
        check.reads(h, 1, "bar a0 when not(not c0 and(c1 or c2))for 0;", 1);
        check.reads(h, 1, "bar a0 a1 a2 a3 a4 a5 a6 a7 when c0 latched;", 1);
        check.reads(h, 1, Check.times("bar a0 when c0;", 40), 40);
        check.reads(h, 1, "bar a0 when c0" + Check.times(" or c0", 31) + ";", 1);
        check.reads(h, 1, "bar a0 when " + Check.times("not ", 20) + "c0 and " + Check.times("(", 20) + "c0" + Check.times(")", 20) + ";", 1);
        check.reads(h, 1, "bar a0 when " + Check.times("not (", 10) + "c0" + Check.times(")", 10) + " or not c1;", 1);
        check.reads(h, 1, "bar", -3 - 1);
        check.due("3: the old rows stay", h.row(1, 0), 0);
    }

    private static void wrongWords(Check check) {
        wrongWord(check, "a0", 0);
        wrongWord(check, ";", 0);
        wrongWord(check, "bar", 1);
        wrongWord(check, "bar when c0;", 1);
        wrongWord(check, "bar a32 when c0;", 1);
        wrongWord(check, "bar a01 when c0;", 1);
        wrongWord(check, "bar a when c0;", 1);
        wrongWord(check, "bar a-1 when c0;", 1);
        wrongWord(check, "bar b1 when c0;", 1);
        wrongWord(check, "bar a1 a1 when c0;", 2);
        wrongWord(check, "bar a0 a1 a2 a3 a4 a5 a6 a7 a8 when c0;", 9);
        wrongWord(check, "bar a0;", 2);
        wrongWord(check, "bar a0 when", 3);
        wrongWord(check, "bar a0 when ;", 3);
        wrongWord(check, "bar a0 when c16;", 3);
        wrongWord(check, "bar a0 when c00;", 3);
        wrongWord(check, "bar a0 when a0;", 3);
        wrongWord(check, "bar a0 when c0", 4);
        wrongWord(check, "bar a0 when c0 c1;", 4);
        wrongWord(check, "bar a0 when c0);", 4);
        wrongWord(check, "bar a0 when (c0;", 5);
        wrongWord(check, "bar a0 when () ;", 4);
        wrongWord(check, "bar a0 when c0 or;", 5);
        wrongWord(check, "bar a0 when c0 and;", 5);
        wrongWord(check, "bar a0 when not;", 4);
        wrongWord(check, "bar a0 when c0 not c1;", 4);
        wrongWord(check, "bar a0 when c0 for;", 5);
        wrongWord(check, "bar a0 when c0 for 3601;", 5);
        wrongWord(check, "bar a0 when c0 for 00;", 5);
        wrongWord(check, "bar a0 when c0 for 05;", 5);
        wrongWord(check, "bar a0 when c0 for 99999999999;", 5);
        wrongWord(check, "bar a0 when c0 for latched;", 5);
        wrongWord(check, "bar a0 when c0 latched for 5;", 5);
        wrongWord(check, "bar a0 when c0 latched latched;", 5);
        wrongWord(check, "bar a0 when c0; bar", 6);
        wrongWord(check, "bar a0 when c0;;", 5);
        wrongWord(check, "bar a0 when\tc0;", 2);
        wrongWord(check, Check.times("bar a0 when c0;", 40) + "bar a0 when c0;", 200);
        wrongWord(check, "bar a0 when c0" + Check.times(" or c0", 32) + ";", 3 + 64);
        wrongWord(check, "bar a0 when " + Check.times("not ", 21) + "c0;", 23);
        wrongWord(check, "bar a0 when " + Check.times("(", 21) + "c0" + Check.times(")", 21) + ";", 23);
        wrongWord(check, "bar a0 when " + Check.times("not (", 10) + " not c0" + Check.times(")", 10) + ";", 23);
        // Parts that have ended are not open any more.
        wrongWord(check, "bar a0 when " + Check.times("not not (c0) or ", 9) + "x;", 3 + 9 * 6);
    }

    // Random expressions over c0 .. c4, with conditions that are on when the second is great enough.
    private static long seed = 7;

    private static int random(int n) {
        seed = seed * 6364136223846793005L + 1442695040888963407L;
        return (int) ((seed >>> 33) % n);
    }

    private static int terms;

    /** Writes an expression: the conditions (bits of a set of 5) under which it is on, as bits of 32 sets. */
    private static long or(StringBuilder text, int depth) {
        long on = and(text, depth);
        while (random(3) == 0 && terms < 25) {
            text.append(" or ");
            on |= and(text, depth);
        }
        return on;
    }

    private static long and(StringBuilder text, int depth) {
        long on = part(text, depth);
        while (random(3) == 0 && terms < 25) {
            text.append(" and ");
            on &= part(text, depth);
        }
        return on;
    }

    private static long part(StringBuilder text, int depth) {
        int pick = depth > 4 ? 9 : random(6);
        if (pick == 0) {
            text.append("not ");
            return ~part(text, depth + 1) & 0xffffffffL;
        }
        if (pick == 1) {
            text.append("(");
            long on = or(text, depth + 1);
            text.append(")");
            return on;
        }
        terms++;
        int c = random(5);
        text.append("c").append(c);
        long on = 0;
        for (int set = 0; set < 32; set++) {
            on |= (set >> c & 1) != 0 ? 1L << set : 0;
        }
        return on;
    }

    private static void expressions(Check check) {
        for (int i = 0; i < 400; i++) {
            BreweryHouse h = new BreweryHouse();
            StringBuilder text = new StringBuilder("bar a5 when ");
            terms = 0;
            long on = or(text, 0);
            text.append(";");
            check.reads(h, 1, text.toString(), terms > 32 ? -1 : 1);
            for (int set = 0; set < 32; set++) {
                for (int c = 0; c < 5; c++) {
                    h.watch(c, 4, 0, (set >> c & 1) != 0 ? 0 : Long.MAX_VALUE);
                }
                h.tick(1);
                check.due("21: " + text + " with " + set, h.row(1, 3), on >> set & 1);
                check.due("20: " + text + " with " + set, h.bars(5), on >> set & 1);
            }
        }
    }

    private static void counting(Check check) {
        BreweryHouse h = new BreweryHouse();
        Check.read(h, 1, "bar a1 when not c0; bar a2 a1 when c0 for 3 latched;");
        check.due("21: on before a second", h.row(1, 3), 1);
        check.due("21: no count", h.row(1, 0), 0);
        check.due("20: bars at once", h.bars(1), 1);
        check.due("20: another act", h.bars(2), 0);
        check.due("12: barred, but not bound first", h.act(1), 1);
        Check.read(h, 0, "tank 5\nvalve 0\n");
        h.bind(1, 4, 0, 0, 0);
        check.due("12: barred", h.act(1), 2);
        check.due("25: alarm", h.alarm(1, 2), 12);
        h.tick(600);
        check.due("21: count", h.row(1, 0), 600);
        h.watch(0, 4, 0, 0);
        check.due("9: not yet", h.row(1, 3), 1);
        h.tick(1);
        check.due("21: off", h.row(1, 3), 0);
        check.due("21: 0 again", h.row(1, 0), 0);
        check.due("21: counts", h.row(2, 0), 1);
        check.due("20: not held", h.bars(1), 0);
        check.due("12: not barred", h.act(1), 0);
        h.tick(1);
        check.due("20: 2 are not 3", h.bars(2), 0);
        check.due("21: not latched", h.row(2, 1), 0);
        h.tick(1);
        check.due("20: 3 are", h.bars(2), 2);
        check.due("20: first row", h.bars(1), 2);
        check.due("21: latched", h.row(2, 1), 1);
        check.due("19: on", h.reset(2), false);
        h.watch(0, 5, 0, 0);
        h.tick(1);
        check.due("21: off, count", h.row(2, 0), 0);
        check.due("21: stays latched", h.row(2, 1), 1);
        check.due("20: row 1 before row 2", h.bars(1), 1);
        check.due("20: latched bars", h.bars(2), 2);
        check.due("19: off", h.reset(2), true);
        check.due("19: again", h.reset(2), false);
        check.due("20: reset", h.bars(2), 0);
        h.tick(5);
        Check.read(h, 1, "bar a1 when not c0;");
        check.due("3: anew", h.row(1, 0), 0);
        check.due("3: one row", h.row(2, 0), -1);
        // That many seconds take more than 512 calls; the class goes on as before, though nothing is promised of that.
        for (int i = 0; i < 1700; i++) {
            h.tick(600);
        }
        check.due("21: at most", h.row(1, 0), 1000000);
    }

    private static void bypasses(Check check) {
        BreweryHouse h = new BreweryHouse();
        Check.read(h, 1, "bar a1 when not c0 latched;");
        check.due("18: no row 0", h.pass(0, 0, 0, 0), -1);
        check.due("18: no row 2", h.pass(2, 1, 2, 5), -1);
        check.due("18: person 0", h.pass(1, 0, 2, 0), -2);
        check.due("18: person 1000", h.pass(1, 1, 1000, 5), -2);
        check.due("18: the same", h.pass(1, 7, 7, 5), -2);
        check.due("18: 0 seconds", h.pass(1, 1, 999, 0), -3);
        check.due("18: 3601 seconds", h.pass(1, 1, 999, 3601), -3);
        check.due("21: none", h.row(1, 2), 0);
        check.due("18: passed", h.pass(1, 1, 999, 3600), 0);
        check.due("18: already", h.pass(1, 1, 2, 5), -4);
        check.due("21: left", h.row(1, 2), 3600);
        check.due("20: by-passed", h.bars(1), 0);
        h.tick(1);
        check.due("21: one less", h.row(1, 2), 3599);
        check.due("21: it latches nevertheless", h.row(1, 1), 1);
        check.due("20: by-passed still", h.bars(1), 0);
        for (int i = 0; i < 5; i++) {
            h.tick(600);
        }
        h.tick(598);
        check.due("21: one left", h.row(1, 2), 1);
        check.due("20: last second", h.bars(1), 0);
        h.tick(1);
        check.due("21: over", h.row(1, 2), 0);
        check.due("20: over", h.bars(1), 1);
        check.due("18: again", h.pass(1, 2, 1, 1), 0);
        Check.read(h, 1, "bar a1 when not c0 latched;");
        check.due("3: rows begin anew", h.row(1, 2) + h.row(1, 1), 0);
    }

    private static void watching(Check check) {
        BreweryHouse h = new BreweryHouse();
        Check.read(h, 0, "tank 10\ntank 9\nvalve 6\npipe 0 2 1\npipe 2 1 1\n");
        Check.read(h, 1, "bar a0 when c0;bar a1 when c1;bar a2 when c2;bar a3 when c3;bar a4 when c4;bar a5 when c15;");
        h.fill(0, 7, 5);
        h.bind(9, 0, 0, 1, 1);
        h.act(9);
        h.watch(0, 0, 0, 5);
        h.watch(1, 1, 3, 7);
        h.watch(2, 2, 2, 1);
        h.watch(3, 3, 99, 1);
        h.watch(4, 4, -1, 2);
        h.watch(15, 0, 2, Long.MIN_VALUE);
        check.due("9: from the next second on", on(h), 0);
        h.tick(1);
        check.due("9: second 0", on(h), 0b001101);
        h.tick(1);
        check.due("9: second 1", on(h), 0b001110);
        h.tick(1);
        check.due("9: second 2", on(h), 0b011110);
        h.watch(1, 1, 2, 0);
        h.watch(15, 2, 0, 0);
        h.watch(3, 3, 0, 2);
        h.tick(1);
        check.due("9: no such x", on(h), 0b010100);
        h.watch(2, 2, 2, 2);
        h.watch(4, 5, 0, 0);
        h.watch(15, 1, 5, 0);
        h.watch(0, 0, 1, -5);
        h.tick(1);
        check.due("9: off", on(h), 0b000001);
        check.due("9: c 16", h.watch(16, 0, 0, 0), false);
        check.due("9: c -1", h.watch(-1, 0, 0, 0), false);
        check.due("9: what 6", h.watch(0, 6, 0, 0), false);
        check.due("9: what -1", h.watch(0, -1, 0, 0), false);
        check.due("9: right", h.watch(15, 5, -7, -7), true);
        Check.read(h, 1, "bar a1 when c0;");
        check.due("9: conditions stay with new rows", h.bars(1), 1);
    }

    private static int on(BreweryHouse h) {
        int on = 0;
        for (int r = 0; r < 6; r++) {
            on |= h.row(r + 1, 3) << r;
        }
        return on;
    }

    private static void refused(Check check) {
        BreweryHouse h = new BreweryHouse();
        Check.read(h, 1, "bar a0 when c0;");
        check.due("20: act -1", h.bars(-1), -1);
        check.due("20: act 32", h.bars(32), -1);
        check.due("20: act 31", h.bars(31), 0);
        check.due("21: row 0", h.row(0, 0), -1);
        check.due("21: row 2", h.row(2, 0), -1);
        check.due("21: what 4", h.row(1, 4), -1);
        check.due("21: what -1", h.row(1, -1), -1);
        check.due("19: row 0", h.reset(0), false);
        check.due("19: row 2", h.reset(2), false);
        check.due("19: not latched", h.reset(1), false);
    }
}
