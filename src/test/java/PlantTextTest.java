/** Promises 3 and 29: texts of plants, where they are wrong, and how they are written. */
public final class PlantTextTest {
    public static void main(String[] args) {
        Check check = new Check();
        rightOnes(check);
        wrongBytes(check);
        wrongLines(check);
        tooMany(check);
        ports(check);
        writing(check);
        newPlant(check);
        check.done();
    }

    private static void rightOnes(Check check) {
        BreweryHouse h = new BreweryHouse();
        check.reads(h, 0, "", 0);
        check.reads(h, 0, "tank 1\n", 1);
        check.reads(h, 0, "tank 100000\n", 1);
        check.reads(h, 0, "pump\nvalve 0\nvalve 7\n", 3);
        check.reads(h, 0, "pipe - - 1\n", 0);
        check.reads(h, 0, "tank 5\npipe 0 0 200\npipe 0 - 1\n", 1);
        check.reads(h, 0, Check.times("tank 9\n", 20) + Check.times("pipe 19 0 7\n", 24), 20);
        check.reads(h, 0, Check.times("pipe - - 7\n", 24), 0);
    }

    private static void wrongBytes(Check check) {
        check.wrongAt(0, "^\n");
        check.wrongAt(0, "^x");
        check.wrongAt(0, "^ tank 5\n");
        check.wrongAt(0, "^Tank 5\n");
        check.wrongAt(0, "t^");
        check.wrongAt(0, "t^ank5\n".replace("ank5", "hank"));
        check.wrongAt(0, "tank^\n");
        check.wrongAt(0, "tank ^ 5\n");
        check.wrongAt(0, "tank ^-\n");
        check.wrongAt(0, "tank 5^ \n");
        check.wrongAt(0, "tank 5^");
        check.wrongAt(0, "tank 0^5\n");
        check.wrongAt(0, "tank 1234567^8\n");
        check.wrongAt(0, "tank 5^.\n");
        check.wrongAt(0, "p^\n");
        check.wrongAt(0, "p^ank\n");
        check.wrongAt(0, "pump^ 1\n");
        check.wrongAt(0, "pu^pe\n");
        check.wrongAt(0, "v^\n");
        check.wrongAt(0, "valve ^\n");
        check.wrongAt(0, "valve 0^0\n");
        check.wrongAt(0, "tank 5\npipe ^\n");
        check.wrongAt(0, "tank 5\npipe -^5 0 1\n");
        check.wrongAt(0, "tank 5\npipe 0^\n");
        check.wrongAt(0, "tank 5\npipe 0 ^ 0 1\n");
        check.wrongAt(0, "tank 5\npipe 0 0^\n");
        check.wrongAt(0, "tank 5\npipe 0 0 ^-\n");
        check.wrongAt(0, "tank 5\npipe 0 0 1^");
        check.wrongAt(0, "tank 5\n^\ntank 5\n");
    }

    private static void wrongLines(Check check) {
        check.wrongAt(0, "tank 0^\n");
        check.wrongAt(0, "tank 100001^\n");
        check.wrongAt(0, "tank 9999999^\n");
        check.wrongAt(0, "valve 8^\n");
        check.wrongAt(0, "pipe 0 - 5^\n");
        check.wrongAt(0, "tank 5\npipe 0 1 5^\n");
        check.wrongAt(0, "tank 5\npipe 1 0 5^\ntank 5\n");
        check.wrongAt(0, "tank 5\npipe 0 - 0^\n");
        check.wrongAt(0, "tank 5\npipe 0 - 201^\n");
        check.wrongAt(0, "tank 5\npipe 9999999 - 1^\n");
    }

    private static void tooMany(Check check) {
        check.wrongAt(0, Check.times("tank 5\n", 20) + "pump^\n");
        check.wrongAt(0, Check.times("valve 1\n", 20) + "tank 5^\n");
        check.wrongAt(0, Check.times("pipe - - 7\n", 24) + "pipe - - 7^\n");
    }

    private static void ports(Check check) {
        int[] count = {2, 3, 3, 2, 4, 1, 2, 2};
        for (int kind = 0; kind < 8; kind++) {
            String most = "valve " + kind + "\n" + Check.times("pipe - 0 1\n", count[kind]);
            check.reads(new BreweryHouse(), 0, most, 1);
            check.wrongAt(0, most + "pipe 0 - 1^\n");
            check.wrongAt(0, most + "pipe - 0 1^\n");
        }
        check.wrongAt(0, "valve 5\npipe 0 0 1^\n");
        check.reads(new BreweryHouse(), 0, "pump\npipe 0 0 1\n", 1);
        check.wrongAt(0, "pump\npipe - 0 1\npipe 0 0 1^\n");
    }

    private static void writing(Check check) {
        BreweryHouse h = new BreweryHouse();
        Check.read(h, 0, "tank 100000\npipe 0 - 200\npump\npipe - 1 1\nvalve 3\npipe 2 0 17\n");
        writes(check, h, "tank 100000\npump\nvalve 3\npipe 0 - 200\npipe - 1 1\npipe 2 0 17\n");
        check.due("29: below 0", h.write(-1), -1);
        check.reads(h, 0, "tank 5\nx", -3 - 7);
        writes(check, h, "tank 100000\npump\nvalve 3\npipe 0 - 200\npipe - 1 1\npipe 2 0 17\n");
        String longest = Check.times("tank 100000\n", 20) + Check.times("pipe 19 18 200\n", 24);
        // Two objects, as one is used for 512 calls.
        for (int half = 0; half < 2; half++) {
            BreweryHouse other = new BreweryHouse();
            Check.read(other, 0, longest);
            for (int i = half * 300; i < half * 300 + 300; i++) {
                check.due("29: byte " + i, other.write(i), longest.charAt(i));
            }
            check.due("29: behind the end", other.write(longest.length()), -1);
        }
        Check.read(h, 1, "bar a0 when c0;");
        check.due("29: other kinds do not count", h.write(0), 't');
        Check.read(h, 0, "");
        check.due("29: nothing", h.write(0), -1);
    }

    private static void writes(Check check, BreweryHouse h, String text) {
        for (int i = 0; i < text.length(); i++) {
            check.due("29: byte " + i, h.write(i), text.charAt(i));
        }
        check.due("29: behind the end", h.write(text.length()), -1);
    }

    private static void newPlant(Check check) {
        BreweryHouse h = new BreweryHouse();
        String plant = "tank 10\ntank 10\nvalve 6\npipe 0 2 1\npipe 2 1 1\n";
        Check.read(h, 0, plant);
        Check.read(h, 2, "wait 9 s;");
        h.bind(0, 0, 0, 1, 3);
        h.fill(0, 4, 5);
        h.start();
        h.tick(1);
        check.due("12: open", h.act(0), 0);
        h.tick(1);
        check.due("3: valve stands", h.space(2, 4), 1);
        check.due("3: litres", h.space(1, 1), 1);
        check.reads(h, 0, "tank 0\n", -3 - 6);
        check.due("3: wrong text, the run is on", h.state(), 0);
        check.due("3: wrong text, the way is open", h.way(0, 0), 0);
        check.reads(h, 0, plant, 3);
        check.due("3: no run", h.state(), 4);
        check.due("3: no way", h.way(0, 0), -1);
        check.due("3: at 0", h.space(2, 4), 0);
        for (int s = 0; s < 5; s++) {
            check.due("3: empty " + s, h.space(s, 1), s == 2 ? -1 : 0);
            check.due("3: never used " + s, h.space(s, 2), s == 2 ? -1 : 0);
        }
        check.due("3: seconds stay", h.second(), 2);
        check.due("3: bindings stay", h.act(0), 4);
        check.due("4: never used", h.fill(1, 5, 10), true);
    }
}
