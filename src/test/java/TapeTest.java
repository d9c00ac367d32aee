/** Promises 1, 2, 3 (what is no text) and 30: a new object and its tape. */
public final class TapeTest {
    public static void main(String[] args) {
        Check check = new Check();
        newObject(check);
        feeding(check);
        noTexts(check);
        check.done();
    }

    private static void newObject(Check check) {
        BreweryHouse h = new BreweryHouse();
        check.due("1: NONE", BreweryHouse.NONE, -1);
        check.due("1: FULL", BreweryHouse.FULL, -2);
        check.due("1: no plant", h.write(0), -1);
        check.due("1: no space", h.space(0, 0), -1);
        check.due("1: no row", h.row(1, 0), -1);
        check.due("1: no row bars", h.bars(0), 0);
        check.due("1: no program", h.start(), false);
        check.due("1: no run", h.state(), 4);
        check.due("1: no alarm", h.alarm(0, 0), -1);
        check.due("1: no way", h.way(0, 0), -1);
        check.due("1: no name", h.value(0), 0);
        check.due("1: no still", h.still(0), -1);
        check.due("1: safe", h.danger(0), 0);
        check.due("1: safe, no space", h.danger(1), -1);
        check.due("1: nothing is bound", h.act(0), 1);
        check.due("1: second 0", h.second(), 0);
        check.due("1: tape is empty", h.end(0, 1), -1);
        check.due("1: first feed", h.feed(0, 0, 0, 0, 0), 20);
    }

    private static void feeding(Check check) {
        BreweryHouse h = new BreweryHouse();
        for (int i = 1; i <= 201; i++) {
            check.due("2: feed " + i, h.feed(0x20202020, 0x0a0a0a0a, 0, 0, 0), 20 * i);
        }
        check.due("2: full", h.feed(0, 0, 0, 0, 0), -2);
        check.due("2: full again", h.feed(0, 0, 0, 0, 0), -2);
        check.due("3: emptied", h.end(1, 8), 0);
        check.due("2: from anew", h.feed(0, 0, 0, 0, 0), 20);
        h.end(0, 0);
        // The highest byte of each number comes first.
        h.feed(0x70756d70, 0x0a000000, 0, 0, 0);
        check.due("2: order of bytes", h.end(0, 5), 1);
    }

    private static void noTexts(Check check) {
        BreweryHouse h = new BreweryHouse();
        int pump = 0x70756d70;
        h.feed(pump, 0x0a707570, 0, 0, 0);
        check.due("3: kind -1", h.end(-1, 5), -1);
        check.due("3: tape is empty then", h.end(0, 5), -1);
        h.feed(pump, 0x0a707570, 0, 0, 0);
        check.due("3: kind 3", h.end(3, 5), -1);
        check.due("3: tape is empty behind kind 3", h.feed(0, 0, 0, 0, 0), 20);
        check.due("3: n -1", h.end(0, -1), -1);
        h.feed(pump, 0x0a707570, 0, 0, 0);
        check.due("3: too many", h.end(0, 21), -1);
        h.feed(pump, 0x0a000000, 0, 0, 0);
        check.due("3: a byte 0", h.end(0, 6), -1);
        h.feed(pump, 0x0a000000, 0, 0, 0);
        check.due("3: no byte 0 in it", h.end(0, 5), 1);
        h.feed(pump, 0x0a800000, 0, 0, 0);
        check.due("3: a byte 128", h.end(0, 6), -1);
        h.feed(pump, 0x0a7f0000, 0, 0, 0);
        check.due("3: a byte 127 is wrong at its place", h.end(0, 6), -3 - 5);
        check.due("3: what was there stays", h.write(0), 'p');
        for (int i = 0; i < 201; i++) {
            h.feed(0x20202020, 0x20202020, 0x20202020, 0x20202020, 0x20202020);
        }
        check.due("3: 4,001 bytes", h.end(1, 4001), -1);
        for (int i = 0; i < 201; i++) {
            h.feed(0x20202020, 0x20202020, 0x20202020, 0x20202020, 0x20202020);
        }
        check.due("3: 4,000 bytes", h.end(1, 4000), 0);
        check.due("3: no words", h.end(1, 0), 0);
        check.due("3: no lines", h.end(0, 0), 0);
        check.due("3: no program", h.end(2, 0), 0);
        check.due("30: none of these is a second", h.second(), 0);
        check.due("30: seconds", h.tick(7) * 100 + h.second(), 407);
        check.due("14: refused", h.tick(601) + h.tick(-1), -2);
        check.due("30: still 7", h.second(), 7);
        check.due("14: 600", h.tick(600), 4);
        check.due("14: 0", h.tick(0), 4);
        check.due("30: 607", h.second(), 607);
    }
}
