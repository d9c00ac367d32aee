/** Terms, PLANT, THINGS, PORTS, POSITIONS: every boundary that they name, on both sides. */
public final class PlantEdgesTest {
    private static final String PLANT = "tank 12\nvalve 3\npump\ntank 100000\npipe 0 1 30\npipe - 2 5\npipe 3 - 200\npipe 1 0 1\n";

    public static void main(String[] args) {
        Check check = new Check();
        numbersInRange(check);
        numbersAsTexts(check);
        thingsThatAreThere(check);
        endOfText(check);
        wrongByte(check);
        firstWrongByte(check);
        blanksAndLines(check);
        tooManyThings(check);
        tooManyPipes(check);
        portsOfTanks(check);
        portsLeft(check);
        orderOfPorts(check);
        positionsAtFirst(check);
        passing(check);
        passingOfPumps(check);
        shutPositions(check);
        check.done();
    }

    private static void right(Check check, String text, int things) {
        check.reads(new BreweryHouse(), 0, text, things);
    }

    /** Numbers from least to most can stand for the %; the next ones are wrong at the byte 10 of the last line. */
    private static void range(Check check, String text, int least, int most, int things) {
        right(check, text.replace("%", "" + least), things);
        right(check, text.replace("%", "" + most), things);
        if (least > 0) {
            check.wrongAt(0, text.replace("%", "" + (least - 1)).replaceAll("\n$", "^\n"));
        }
        check.wrongAt(0, text.replace("%", "" + (most + 1)).replaceAll("\n$", "^\n"));
        check.wrongAt(0, text.replace("%", "9999999").replaceAll("\n$", "^\n"));
    }

    private static void numbersInRange(Check check) {
        range(check, "tank %\n", 1, 100000, 1);
        range(check, "valve %\n", 0, 7, 1);
        range(check, "pipe - - %\n", 1, 200, 0);
        range(check, "tank 5\ntank 5\npipe % 1 3\n", 0, 1, 2);
        range(check, "tank 5\ntank 5\npipe 1 % 3\n", 0, 1, 2);
    }

    private static void numbersAsTexts(Check check) {
        String[][] places = {{"tank ", "\n"}, {"valve ", "\n"}, {"tank 5\npipe ", " - 3\n"}, {"tank 5\npipe - ", " 3\n"},
            {"tank 5\npipe - - ", "\n"}};
        for (String[] place : places) {
            check.wrongAt(0, place[0] + "^" + place[1]);
            check.wrongAt(0, place[0] + "^x" + place[1]);
            check.wrongAt(0, place[0] + "^+1" + place[1]);
            check.wrongAt(0, place[0] + "0^0" + place[1]);
            check.wrongAt(0, place[0] + "0^1" + place[1]);
            check.wrongAt(0, place[0] + "1^x" + place[1]);
            check.wrongAt(0, place[0] + "1^/" + place[1]);
            check.wrongAt(0, place[0] + "1^:" + place[1]);
            check.wrongAt(0, place[0] + "1234567^8" + place[1]);
            check.wrongAt(0, place[0] + "9999999^9" + place[1]);
            String seven = place[0] + "9999999" + place[1];
            check.wrongAt(0, seven.substring(0, seven.length() - 1) + "^\n");
        }
        // A - stands for no thing alone: not for litres or kinds, and not in front of a number.
        check.wrongAt(0, "tank ^-\n");
        check.wrongAt(0, "valve ^-1\n");
        check.wrongAt(0, "pipe - - ^-\n");
        check.wrongAt(0, "pipe -^1 - 5\n");
        check.wrongAt(0, "pipe -^- - 5\n");
        right(check, "tank 10\ntank 100\ntank 1000\ntank 10000\n", 4);
    }

    private static void thingsThatAreThere(Check check) {
        check.wrongAt(0, "pipe 0 - 5^\ntank 5\n");
        check.wrongAt(0, "pipe - 0 5^\ntank 5\n");
        right(check, "tank 5\npipe 0 - 5\ntank 5\npipe 1 0 5\n", 2);
        check.wrongAt(0, "tank 5\npipe 0 1 5^\ntank 5\n");
        check.wrongAt(0, "tank 5\npipe 1 0 5^\ntank 5\n");
        right(check, Check.times("tank 5\n", 20) + "pipe 19 18 5\n", 20);
        check.wrongAt(0, Check.times("tank 5\n", 20) + "pipe 20 18 5^\n");
        check.wrongAt(0, Check.times("tank 5\n", 20) + "pipe 18 20 5^\n");
        // Pipes are no things: their numbers are of their own.
        check.wrongAt(0, "tank 5\npipe 0 - 5\npipe 1 - 5^\n");
    }

    /** A text that ends within a line is wrong at its end; at the end of a line it is right. */
    private static void endOfText(Check check) {
        int things = 0;
        for (int n = 0; n <= PLANT.length(); n++) {
            boolean ends = n == 0 || PLANT.charAt(n - 1) == 10;
            if (ends && n > 0 && !PLANT.substring(0, n - 1).replaceAll(".*\n", "").startsWith("pipe")) {
                things++;
            }
            right(check, PLANT.substring(0, n), ends ? things : -3 - n);
        }
    }

    private static void wrongByte(Check check) {
        for (int i = 0; i < PLANT.length(); i++) {
            for (String other : new String[] {"?", "\t", "T", "~"}) {
                check.wrongAt(0, PLANT.substring(0, i) + "^" + other + PLANT.substring(i + 1));
            }
        }
    }

    /** Wrong numbers count at the byte 10, so a wrong byte in front of it comes first. */
    private static void firstWrongByte(Check check) {
        check.wrongAt(0, "tank 0^ \n");
        check.wrongAt(0, "tank 100001^x\n");
        check.wrongAt(0, "valve 9^.\n");
        check.wrongAt(0, "tank 999999^");
        check.wrongAt(0, "pipe 7 ^x 0\n");
        check.wrongAt(0, "pipe 7 8 ^\n");
        check.wrongAt(0, "pipe 7 8 0^ \n");
        check.wrongAt(0, Check.times("tank 5\n", 20) + "tank ^\n");
        check.wrongAt(0, Check.times("pipe - - 7\n", 24) + "pipe - - 7^x\n");
        // Of two wrong lines the first.
        check.wrongAt(0, "tank 0^\nx");
        check.wrongAt(0, "tank 1\ntank 0^\ntank 0\n");
    }

    private static void blanksAndLines(Check check) {
        check.wrongAt(0, "^ tank 5\n");
        check.wrongAt(0, "tank ^ 5\n");
        check.wrongAt(0, "tank 5^ \n");
        check.wrongAt(0, "tank^5\n");
        check.wrongAt(0, "tank^\t5\n");
        check.wrongAt(0, "tank 5^\r\n");
        check.wrongAt(0, "pump^ \n");
        check.wrongAt(0, "pump^5\n");
        check.wrongAt(0, "pump^pump\n");
        check.wrongAt(0, "pipe ^ - - 5\n");
        check.wrongAt(0, "pipe - ^ - 5\n");
        check.wrongAt(0, "pipe - - ^ 5\n");
        check.wrongAt(0, "pipe - - 5^ 5\n");
        check.wrongAt(0, "pipe -^\n");
        check.wrongAt(0, "pipe - -^\n");
        check.wrongAt(0, "^\n");
        check.wrongAt(0, "pump\n^\n");
        check.wrongAt(0, "pump\n^ ");
        check.wrongAt(0, "p^");
        check.wrongAt(0, "p^p");
        check.wrongAt(0, "pi^\n");
        check.wrongAt(0, "v^\n");
    }

    private static void tooManyThings(Check check) {
        String twenty = Check.times("tank 5\npump\nvalve 1\nvalve 7\n", 5);
        right(check, twenty, 20);
        for (String line : new String[] {"tank 5", "pump", "valve 0"}) {
            check.wrongAt(0, twenty + line + "^\n");
            check.wrongAt(0, twenty + "pipe 0 1 5\n" + line + "^\npipe 0 1 5\n");
        }
        right(check, Check.times("pump\n", 19), 19);
        right(check, Check.times("valve 5\n", 20), 20);
    }

    private static void tooManyPipes(Check check) {
        String pipes = Check.times("pipe - - 7\npipe - 0 1\n", 12);
        right(check, "tank 5\n" + pipes, 1);
        check.wrongAt(0, "tank 5\n" + pipes + "pipe - - 1^\n");
        check.wrongAt(0, "tank 5\n" + pipes + "pump\npipe 0 - 1^\n");
        right(check, "tank 5\n" + pipes + Check.times("pump\n", 19), 20);
        right(check, Check.times("pipe - - 200\n", 23), 0);
    }

    private static void portsOfTanks(Check check) {
        right(check, "tank 5\n" + Check.times("pipe 0 0 1\n", 24), 1);
        right(check, "tank 5\ntank 5\n" + Check.times("pipe 0 1 1\n", 24), 2);
    }

    /** A thing with one port left takes one more end, of a pipe with both ends at it none. */
    private static void portsLeft(Check check) {
        int[] count = {2, 3, 3, 2, 4, 1, 2, 2, 2};
        for (int kind = 0; kind < 9; kind++) {
            String thing = kind == 8 ? "pump\n" : "valve " + kind + "\n";
            String most = thing + Check.times("pipe - 0 1\n", count[kind] - 1);
            right(check, most, 1);
            check.wrongAt(0, most + "pipe 0 0 1^\n");
            right(check, most + "pipe - 0 1\n", 1);
            right(check, most + "pipe 0 - 1\n", 1);
            check.wrongAt(0, most + "pipe 0 - 1\npipe 0 - 1^\n");
            check.wrongAt(0, most + "pipe 0 - 1\npipe - 0 1^\n");
            right(check, most + "pipe 0 - 1\n" + thing + "pipe 1 - 1\n", 2);
            if (count[kind] > 1) {
                right(check, thing + Check.times("pipe 0 - 1\n", count[kind] - 2) + "pipe 0 0 1\n", 1);
            }
            // What a wrong text had told does not count in the next one.
            BreweryHouse h = new BreweryHouse();
            Check.read(h, 0, most + "pipe 0 - 1\npipe 0 - 1\n");
            check.reads(h, 0, most + "pipe 0 - 1\n", 1);
        }
    }

    /** Ports come in the order of the pipes, of one pipe the first end before the second. */
    private static void orderOfPorts(Check check) {
        BreweryHouse h = Hands.house("tank 9\ntank 9\npump\npipe 0 2 1\npipe 2 1 1\n");
        h.fill(0, 1, 5);
        check.due("PORTS: from port 0 to port 1", Hands.open(h, 0, 1, 1), 0);
        h = Hands.house("tank 9\ntank 9\npump\npipe 2 1 1\npipe 0 2 1\n");
        h.fill(0, 1, 5);
        check.due("PORTS: against a pump", Hands.open(h, 0, 1, 1), 5);
        // The pipe with both ends at valve 2 has its ports 1 and 2: in position 0 that is 0 - 1 and 2 - 3, over it.
        h = Hands.house("tank 9\ntank 9\nvalve 4\npump\npipe 0 2 1\npipe 2 2 1\npipe 3 1 1\npipe 2 3 1\n");
        h.fill(0, 1, 5);
        check.due("PORTS: pump's port 0 came first, at pipe 2", Hands.open(h, 0, 1, 1), 5);
        h = Hands.house("tank 9\ntank 9\nvalve 4\npump\npipe 0 2 1\npipe 2 2 1\npipe 2 3 1\npipe 3 1 1\n");
        h.fill(0, 1, 5);
        check.due("PORTS: over the pump", Hands.open(h, 0, 1, 1), 0);
        check.due("PORTS: not over the pipe with both ends at the valve", h.way(0, 2), 3);
        check.due("PORTS: position 1, from port 0 to port 3", h.space(2, 4), 1);
        // A pump whose both ports are ends of one pipe: its first end is port 0.
        right(check, "pump\npipe 0 0 5\n", 1);
    }

    private static void positionsAtFirst(Check check) {
        String valves = "";
        for (int kind = 0; kind < 8; kind++) {
            valves += "valve " + kind + "\n";
        }
        BreweryHouse h = Hands.house(valves);
        for (int v = 0; v < 8; v++) {
            check.due("POSITIONS: 0 at first, valve " + v, h.space(v, 4), 0);
            for (int p : new int[] {9, 1}) {
                check.due("POSITIONS: valve " + v + " to " + p, Hands.turn(h, v, p), 0);
                check.due("POSITIONS: valve " + v + " at " + p, h.space(v, 4), p);
            }
        }
        Check.read(h, 0, valves);
        for (int v = 0; v < 8; v++) {
            check.due("POSITIONS: 0 in a new plant, valve " + v, h.space(v, 4), 0);
        }
    }

    /** As the document tells it: what a kind passes from one port to another, as the positions in which it does. */
    private static String passes(int kind, int a, int b) {
        String pair = Math.min(a, b) + "-" + Math.max(a, b);
        switch (kind) {
            case 0:
                return "1";
            case 1:
                return pair.equals("0-1") ? "0" : pair.equals("0-2") ? "1" : "3";
            case 2:
                return pair.equals("0-1") ? "14" : pair.equals("0-2") ? "24" : "34";
            case 3:
                return a < b ? "0123456789" : "";
            case 4:
                return pair.equals("0-1") || pair.equals("2-3") ? "01" : "1";
            case 6:
                return "123456789";
            default:
                return a < b ? "1" : "";
        }
    }

    private static final int[] PORTS = {2, 3, 3, 2, 4, 0, 2, 2};

    /**
     * Tank 0 is at port a of valve 2, and behind port b are a valve that may fail, a pump that lets nothing back, and
     * tank 1: two liquids meet when the valve passes from a to b as it is told, in no other failure.
     */
    private static String guarded(String thing, int ports, int a, int b) {
        StringBuilder plant = new StringBuilder("tank 9\ntank 9\n" + thing + "valve 0\npump\n");
        for (int port = 0; port < ports; port++) {
            plant.append(port == a ? "pipe 0 2 1\n" : port == b ? "pipe 2 3 1\n" : "pipe 2 - 1\n");
        }
        return plant.append("pipe 3 4 1\npipe 4 1 1\n").toString();
    }

    private static void passing(Check check) {
        for (int kind = 0; kind < 8; kind++) {
            for (int a = 0; a < PORTS[kind]; a++) {
                for (int b = 0; b < PORTS[kind]; b++) {
                    for (int p = 0; a != b && p < 10; p++) {
                        passesAt(check, kind, PORTS[kind], a, b, p);
                        // Where nothing is at the ports behind them.
                        passesAt(check, kind, Math.max(a, b) + 1, a, b, p);
                    }
                }
            }
        }
    }

    private static void passesAt(Check check, int kind, int ports, int a, int b, int p) {
        String what = "POSITIONS: kind " + kind + " from " + a + " to " + b + " at " + p;
        boolean passes = passes(kind, a, b).indexOf('0' + p) >= 0;
        String plant = guarded("valve " + kind + "\n", ports, a, b);
        BreweryHouse h = Hands.house(plant);
        Hands.turn(h, 2, p);
        check.due(what + ", one liquid", h.fill(0, 1, 5), true);
        check.due(what + ", another one", h.fill(1, 2, 5), !passes);
        check.due(what + ", safe", h.danger(0), 0);
        // From a position that passes nothing from a to b, where there is one.
        int idle = passes(kind, a, b).indexOf('9') < 0 ? 9 : kind == 6 ? 0 : -1;
        if (idle >= 0 && idle != p) {
            h = Hands.house(plant);
            Hands.turn(h, 2, idle);
            h.fill(0, 1, 5);
            h.fill(1, 2, 5);
            check.due(what + ", POSITION", Hands.turn(h, 2, p), passes ? 7 : 0);
            check.due(what + ", stands", h.space(2, 4), passes ? idle : p);
        }
    }

    private static void passingOfPumps(Check check) {
        for (int a = 0; a < 2; a++) {
            BreweryHouse h = Hands.house(guarded("pump\n", 2, a, 1 - a));
            h.fill(0, 1, 5);
            check.due("POSITIONS: a pump passes from port 0 to port 1, from " + a, h.fill(1, 2, 5), a == 1);
        }
    }

    private static void shutPositions(Check check) {
        for (int kind = 0; kind < 8; kind++) {
            for (int before = 0; kind != 5 && before < 10; before++) {
                BreweryHouse h = Hands.house("tank 9\ntank 9\nvalve " + kind + "\npipe 0 2 1\npipe 2 1 1\n");
                h.fill(0, 1, 5);
                Hands.turn(h, 2, before);
                String what = "SHUT: kind " + kind + ", before at " + before;
                check.due(what + ", OPEN", Hands.open(h, 0, 1, 1), 0);
                check.due(what + ", the least position", h.space(2, 4), kind == 1 || kind == 3 || kind == 4 ? 0 : 1);
                check.due(what + ", CLOSE", Hands.close(h, 0, 1), 0);
                check.due(what + ", shut", h.space(2, 4), kind == 1 ? 2 : 0);
            }
        }
        BreweryHouse h = Hands.house("tank 9\ntank 9\nvalve 5\npipe 0 2 1\npipe 1 - 1\n");
        h.fill(0, 1, 5);
        check.due("POSITIONS: kind 5 never passes", Hands.open(h, 0, 1, 1), 5);
    }
}
