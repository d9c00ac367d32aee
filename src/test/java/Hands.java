/** Makes houses and does acts by hand, for the tests. */
final class Hands {
    private Hands() {
    }

    static BreweryHouse house(String plant) {
        BreweryHouse h = new BreweryHouse();
        if (Check.read(h, 0, plant) < 0) {
            throw new IllegalArgumentException("wrong plant: " + plant);
        }
        return h;
    }

    static BreweryHouse program(String text) {
        BreweryHouse h = new BreweryHouse();
        take(h, text);
        return h;
    }

    static BreweryHouse started(String text) {
        BreweryHouse h = program(text);
        h.start();
        return h;
    }

    static void take(BreweryHouse h, String program) {
        if (Check.read(h, 2, program) < 0) {
            throw new IllegalArgumentException("wrong program: " + program);
        }
    }

    static void rows(BreweryHouse h, String text) {
        if (Check.read(h, 1, text) < 0) {
            throw new IllegalArgumentException("wrong interlocks: " + text);
        }
    }

    /** Act 31 is bound, and done. */
    static int doing(BreweryHouse h, int what, int x, int y, int z) {
        h.bind(31, what, x, y, z);
        return h.act(31);
    }

    static int open(BreweryHouse h, int x, int y, int litres) {
        return doing(h, 0, x, y, litres);
    }

    static int close(BreweryHouse h, int x, int y) {
        return doing(h, 1, x, y, 0);
    }

    static int turn(BreweryHouse h, int valve, int position) {
        return doing(h, 2, valve, position, 0);
    }

    static int clean(BreweryHouse h, int space, int level) {
        return doing(h, 3, space, level, 0);
    }

    static int drain(BreweryHouse h, int space) {
        return doing(h, 4, space, 0, 0);
    }

    static void ticks(BreweryHouse h, int seconds) {
        for (int left = seconds; left > 0; left -= 600) {
            h.tick(Math.min(left, 600));
        }
    }
}
