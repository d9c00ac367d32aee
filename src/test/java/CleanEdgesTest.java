/** Terms, CLEANNESS, and promises 6, 7, 27: levels, how long they last, and what may come. */
public final class CleanEdgesTest {
    private static final String PLANT = "tank 9\ntank 9\ntank 9\ntank 9\ntank 9\ntank 9\nvalve 6\npipe 0 6 3\npipe 6 1 2\n";

    public static void main(String[] args) {
        Check check = new Check();
        levelsAtFirst(check);
        lastsToTheSecond(check);
        lastsNothing(check);
        toldAnew(check);
        greaterLevels(check);
        needsAtFirst(check);
        needsToTheLevel(check);
        needsOfEachPair(check);
        neverUsed(check);
        lastLiquid(check);
        cleaningsSince(check);
        pipes(check);
        wayIntoSpaces(check);
        comingSecondBySecond(check);
        refusedCleanings(check);
        newPlant(check);
        check.done();
    }

    private static void use(BreweryHouse h, int tank, int liquid) {
        h.fill(tank, liquid, 1);
        Hands.drain(h, tank);
    }

    /** 86,400 seconds for each level at first: tank k is cleaned with level k. */
    private static void levelsAtFirst(Check check) {
        BreweryHouse h = Hands.house(PLANT);
        for (int k = 1; k <= 5; k++) {
            use(h, k, k);
            check.due("no level at first, " + k, h.space(k, 3), 0);
            check.due("CLEAN with " + k, Hands.clean(h, k, k), 0);
            check.due("holds " + k, h.space(k, 3), k);
        }
        Hands.ticks(h, 86399);
        for (int k = 1; k <= 5; k++) {
            check.due("86,399 seconds ago, " + k, h.space(k, 3), k);
        }
        h.tick(1);
        for (int k = 1; k <= 5; k++) {
            check.due("86,400 seconds ago, " + k, h.space(k, 3), 0);
        }
        check.due("seconds", h.second(), 86400);
    }

    private static void lastsToTheSecond(Check check) {
        for (int k = 1; k <= 5; k++) {
            for (int seconds : new int[] {1, 2, 600}) {
                BreweryHouse h = Hands.house(PLANT);
                for (int other = 1; other <= 5; other++) {
                    h.lasts(other, other == k ? seconds : 0);
                }
                h.tick(3);
                use(h, 0, 1);
                Hands.clean(h, 0, k);
                h.need(1, 2, k);
                String what = "level " + k + " lasts " + seconds;
                check.due(what + ", at once", h.space(0, 3), k);
                h.tick(seconds - 1);
                check.due(what + ", fewer seconds ago", h.space(0, 3), k);
                h.tick(1);
                check.due(what + ", as many seconds ago", h.space(0, 3), 0);
                check.due(what + ", it may not come", h.fill(0, 2, 1), false);
                Hands.clean(h, 0, k);
                h.tick(seconds - 1);
                check.due(what + ", it may come", h.fill(0, 2, 1), true);
            }
        }
    }

    private static void lastsNothing(Check check) {
        BreweryHouse h = Hands.house(PLANT);
        use(h, 0, 1);
        check.due("0 seconds", h.lasts(5, 0), true);
        Hands.clean(h, 0, 5);
        check.due("5 does not hold, a lesser one does", h.space(0, 3), 4);
        h.need(1, 1, 5);
        check.due("needs 5", h.fill(0, 1, 1), false);
        h.need(1, 1, 4);
        check.due("needs 4", h.fill(0, 1, 1), true);
    }

    /** How long a level lasts counts when it is looked at, for cleanings before, too. */
    private static void toldAnew(Check check) {
        BreweryHouse h = Hands.house(PLANT);
        use(h, 0, 1);
        Hands.clean(h, 0, 1);
        h.tick(100);
        check.due("1 lasts 100", h.lasts(1, 100) && h.space(0, 3) == 0, true);
        check.due("1 lasts 101", h.lasts(1, 101) && h.space(0, 3) == 1, true);
        check.due("1 lasts 1,000,000", h.lasts(1, 1000000) && h.space(0, 3) == 1, true);
        for (int[] wrong : new int[][] {{0, 5}, {6, 5}, {-1, 5}, {1, -1}, {1, 1000001}, {Integer.MIN_VALUE, 5}, {Integer.MAX_VALUE, 5},
            {1, Integer.MIN_VALUE}, {1, Integer.MAX_VALUE}}) {
            check.due("lasts(" + wrong[0] + ", " + wrong[1] + ")", h.lasts(wrong[0], wrong[1]), false);
            check.due("what was told stays, " + wrong[0] + ", " + wrong[1], h.space(0, 3), 1);
        }
        check.due("what was told of the others stays", h.lasts(1, 100), true);
        Hands.clean(h, 0, 5);
        Hands.ticks(h, 86399);
        check.due("5 lasts 86,400 as at first", h.space(0, 3), 5);
        h.tick(1);
        check.due("not 86,401", h.space(0, 3), 0);
    }

    /** A space holds level k when it was cleaned with k or more; cleanings count together. */
    private static void greaterLevels(Check check) {
        BreweryHouse h = Hands.house(PLANT);
        for (int k = 1; k <= 5; k++) {
            h.lasts(k, 10 * (6 - k));
        }
        use(h, 0, 1);
        Hands.clean(h, 0, 5);
        for (int second = 1; second <= 50; second++) {
            h.tick(1);
            check.due("cleaned with 5 " + second + " seconds ago", h.space(0, 3), second < 50 ? 5 - second / 10 : 0);
        }
        Hands.clean(h, 0, 2);
        h.tick(39);
        Hands.clean(h, 0, 1);
        check.due("2, 39 seconds ago", h.space(0, 3), 2);
        h.tick(1);
        check.due("1, a second ago", h.space(0, 3), 1);
        h.tick(48);
        check.due("1, 49 seconds ago", h.space(0, 3), 1);
        h.tick(1);
        check.due("1, 50 seconds ago", h.space(0, 3), 0);
        // The lesser cleaning later, the greater one earlier: both count for the lesser level.
        h.lasts(3, 5);
        h.lasts(2, 5);
        Hands.clean(h, 0, 2);
        h.tick(4);
        Hands.clean(h, 0, 3);
        h.tick(4);
        check.due("3, 4 seconds ago", h.space(0, 3), 3);
        h.tick(1);
        check.due("3 and 2 are over", h.space(0, 3), 1);
    }

    private static void needsAtFirst(Check check) {
        BreweryHouse h = Hands.house(PLANT);
        use(h, 0, 1);
        for (int level = 0; level <= 5; level++) {
            if (level > 0) {
                Hands.clean(h, 0, level);
            }
            check.due("5 is needed at first, behind the same one, level " + level, h.fill(0, 1, 1), level == 5);
        }
        use(h, 2, 14);
        for (int level = 0; level <= 5; level++) {
            if (level > 0) {
                Hands.clean(h, 2, level);
            }
            check.due("5 is needed at first, behind another one, level " + level, h.fill(2, 13, 1), level == 5);
        }
    }

    private static void needsToTheLevel(Check check) {
        for (int need = 0; need <= 5; need++) {
            for (int level = 0; level <= 5; level++) {
                BreweryHouse h = Hands.house(PLANT);
                use(h, 0, 3);
                check.due("need(3, 4, " + need + ")", h.need(3, 4, need), true);
                if (level > 0) {
                    Hands.clean(h, 0, level);
                }
                check.due("needs " + need + ", holds " + level, h.fill(0, 4, 1), level >= need);
            }
        }
        BreweryHouse h = Hands.house(PLANT);
        use(h, 0, 3);
        Hands.clean(h, 0, 2);
        h.need(3, 4, 3);
        for (int[] wrong : new int[][] {{0, 4, 0}, {15, 4, 0}, {3, 0, 0}, {3, 15, 0}, {3, 4, -1}, {3, 4, 6}, {3, 4, Integer.MIN_VALUE},
            {3, 4, Integer.MAX_VALUE}, {Integer.MIN_VALUE, 4, 0}, {3, Integer.MAX_VALUE, 0}}) {
            check.due("need(" + wrong[0] + ", " + wrong[1] + ", " + wrong[2] + ")", h.need(wrong[0], wrong[1], wrong[2]), false);
            check.due("what was told stays", h.fill(0, 4, 1), false);
        }
        Hands.clean(h, 0, 3);
        check.due("3 was told", h.fill(0, 4, 1), true);
    }

    /** need(last, liquid) is told for one pair alone, not for the other way round. */
    private static void needsOfEachPair(Check check) {
        int[][] pairs = {{1, 1}, {1, 14}, {14, 1}, {14, 14}, {13, 14}, {2, 1}};
        for (int[] told : pairs) {
            for (int[] asked : pairs) {
                BreweryHouse h = Hands.house(PLANT);
                h.need(told[0], told[1], 0);
                use(h, 0, asked[0]);
                boolean due = told[0] == asked[0] && told[1] == asked[1];
                check.due("told " + told[0] + ", " + told[1] + ", asked " + asked[0] + ", " + asked[1], h.fill(0, asked[1], 1), due);
            }
        }
    }

    private static void neverUsed(Check check) {
        BreweryHouse h = Hands.house(PLANT);
        check.due("never used: last", h.space(0, 2), 0);
        check.due("never used: level", h.space(0, 3), 0);
        check.due("never used: CLEAN", Hands.clean(h, 0, 5), 0);
        check.due("never used, cleaned: level", h.space(0, 3), 0);
        check.due("never used: DRAIN", Hands.drain(h, 0), 0);
        check.due("never used, drained: last", h.space(0, 2), 0);
        check.due("never used: any liquid may come", h.fill(0, 9, 1), true);
        check.due("used: last is what it has", h.space(0, 2), 9);
        check.due("used: another one may not come", h.fill(0, 8, 1), false);
        check.due("used: it may come", h.fill(0, 9, 1), true);
        Hands.drain(h, 0);
        check.due("the cleaning before it was used is no cleaning since", h.space(0, 3), 0);
    }

    private static void lastLiquid(Check check) {
        BreweryHouse h = Hands.house(PLANT);
        for (int liquid = 1; liquid <= 14; liquid++) {
            for (int next = 1; next <= 14; next++) {
                h.need(liquid, next, 0);
            }
            use(h, 0, liquid);
            check.due("last", h.space(0, 2), liquid);
            check.due("it has none", h.space(0, 0) + h.space(0, 1), 0);
        }
        h.fill(0, 3, 9);
        check.due("what it has", h.space(0, 2) * 10 + h.space(0, 0), 33);
        check.due("no level while it has liquid", h.space(0, 3), 0);
    }

    private static void cleaningsSince(Check check) {
        for (int k = 1; k <= 5; k++) {
            BreweryHouse h = Hands.house(PLANT);
            use(h, 0, 1);
            Hands.clean(h, 0, k);
            h.need(1, 1, 0);
            h.fill(0, 1, 1);
            check.due("has liquid, cleaned with " + k, h.space(0, 3), 0);
            Hands.drain(h, 0);
            check.due("cleanings before do not count, " + k, h.space(0, 3), 0);
            Hands.clean(h, 0, k);
            check.due("DRAIN of an empty tank", Hands.drain(h, 0), 0);
            check.due("its cleanings stay, " + k, h.space(0, 3), k);
            check.due("another tank was not cleaned", h.space(1, 3), 0);
        }
    }

    /** Pipes are cleaned, and forget, as tanks do; the last of them, too. */
    private static void pipes(Check check) {
        BreweryHouse h = Hands.house(PLANT);
        h.fill(0, 1, 5);
        Hands.open(h, 0, 1, 9);
        h.tick(1);
        check.due("the pipes are full", h.space(7, 1) * 10 + h.space(8, 1), 32);
        Hands.close(h, 0, 1);
        check.due("CLEAN with liquid", Hands.clean(h, 7, 5) + Hands.clean(h, 8, 5), 6);
        Hands.drain(h, 7);
        Hands.drain(h, 8);
        check.due("last of the pipes", h.space(7, 2) * 10 + h.space(8, 2), 11);
        Hands.clean(h, 7, 2);
        Hands.clean(h, 8, 5);
        check.due("levels of the pipes", h.space(7, 3) * 10 + h.space(8, 3), 25);
        check.due("levels of the tanks", h.space(0, 3) + h.space(1, 3) + h.space(5, 3), 0);
    }

    private static void wayIntoSpaces(Check check) {
        // Tank 1, pipe 7 and pipe 8 were used; each of them must hold the level, in turn.
        for (int dirty : new int[] {1, 7, 8}) {
            for (int level = 0; level <= 5; level++) {
                BreweryHouse h = Hands.house(PLANT);
                h.fill(0, 1, 9);
                Hands.open(h, 0, 1, 8);
                h.tick(1);
                Hands.close(h, 0, 1);
                check.due("all have liquid", h.space(1, 1) * 100 + h.space(7, 1) * 10 + h.space(8, 1), 332);
                Hands.drain(h, dirty);
                h.need(1, 1, 3);
                if (level > 0) {
                    Hands.clean(h, dirty, level);
                }
                check.due("OPEN, space " + dirty + " holds " + level + " of 3", Hands.open(h, 0, 1, 1), level >= 3 ? 0 : 6);
            }
        }
    }

    /** Litres come into the second tank only while it holds the level; into pipes they may, once it is open. */
    private static void comingSecondBySecond(Check check) {
        BreweryHouse h = Hands.house("tank 9\ntank 9\npipe 0 1 1\n");
        h.lasts(5, 3);
        use(h, 1, 2);
        Hands.clean(h, 1, 5);
        h.fill(0, 1, 9);
        h.need(2, 1, 5);
        h.tick(2);
        check.due("OPEN, two seconds ago", Hands.open(h, 0, 1, 1), 0);
        h.tick(1);
        check.due("an empty litre leaves the pipe", h.space(2, 1) * 10 + h.space(1, 1), 10);
        h.tick(1);
        check.due("three seconds ago: it may not come, nothing moves", h.space(0, 1) * 10 + h.space(1, 1), 80);
        h.lasts(5, 5);
        h.tick(1);
        check.due("four seconds ago: it comes", h.space(0, 1) * 10 + h.space(1, 1), 71);
        h.lasts(5, 0);
        h.tick(1);
        check.due("what has it needs nothing", h.space(0, 1) * 10 + h.space(1, 1), 62);
        // A pipe that was clean as the way was opened is not looked at again.
        h = Hands.house("tank 9\ntank 9\npipe 0 1 1\n");
        h.fill(0, 1, 1);
        Hands.open(h, 0, 1, 1);
        h.tick(1);
        Hands.close(h, 0, 1);
        Hands.drain(h, 2);
        Hands.clean(h, 0, 5);
        Hands.clean(h, 2, 5);
        h.lasts(5, 1);
        h.fill(0, 1, 5);
        check.due("OPEN over a clean pipe", Hands.open(h, 0, 1, 1), 0);
        h.lasts(5, 0);
        h.tick(1);
        check.due("it comes into the pipe", h.space(2, 1), 1);
    }

    private static void refusedCleanings(Check check) {
        BreweryHouse h = Hands.house(PLANT);
        use(h, 0, 1);
        Hands.clean(h, 0, 2);
        check.due("level 0", h.bind(0, 3, 0, 0, 0), false);
        check.due("level 6", h.bind(0, 3, 0, 6, 0), false);
        check.due("not bound", h.act(0), 1);
        check.due("CLEAN a valve", Hands.clean(h, 6, 1), 1);
        check.due("CLEAN no space", Hands.clean(h, 9, 1), 1);
        check.due("holds 2", h.space(0, 3), 2);
        h.need(1, 1, 0);
        h.fill(0, 1, 1);
        check.due("CLEAN with a litre", Hands.clean(h, 0, 5), 3);
        Hands.drain(h, 0);
        check.due("that did not count", h.space(0, 3), 0);
        h.fill(1, 1, 9);
        Hands.open(h, 1, 0, 1);
        check.due("CLEAN an empty tank on an open way", Hands.clean(h, 0, 5), 3);
        check.due("CLEAN an empty pipe on an open way", Hands.clean(h, 7, 5) + Hands.clean(h, 8, 5), 6);
        Hands.close(h, 1, 0);
        check.due("that did not count either", h.space(0, 3), 0);
        check.due("CLEAN behind CLOSE", Hands.clean(h, 0, 5) + Hands.clean(h, 7, 5), 0);
    }

    private static void newPlant(Check check) {
        BreweryHouse h = Hands.house(PLANT);
        h.need(1, 1, 4);
        h.lasts(4, 7);
        use(h, 0, 1);
        Hands.clean(h, 0, 5);
        Check.read(h, 0, PLANT);
        check.due("never used", h.space(0, 2) + h.space(0, 3), 0);
        check.due("anything may come", h.fill(0, 2, 1), true);
        Hands.drain(h, 0);
        check.due("the old cleanings are gone", h.space(0, 3), 0);
        use(h, 1, 1);
        Hands.clean(h, 1, 4);
        h.tick(6);
        check.due("what was told of needs and levels stays", h.space(1, 3), 4);
        h.lasts(1, 0);
        h.lasts(2, 0);
        h.lasts(3, 0);
        h.tick(1);
        check.due("level 4 lasts 7", h.space(1, 3), 0);
        Hands.clean(h, 1, 4);
        check.due("need(1, 1) is 4", h.fill(1, 1, 1), true);
    }
}
