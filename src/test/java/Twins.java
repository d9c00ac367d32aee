/**
 * Two houses of one kind: one of them gets a call that is refused, and from then on both must answer the same, now and
 * some seconds later.
 */
final class Twins {
    /** What is done with a house. */
    interface Deed {
        void on(BreweryHouse house);
    }

    /** A call and its answer. */
    interface Call {
        long on(BreweryHouse house);
    }

    private final Check check;
    private final Deed before;
    private final Deed behind;

    /** Before: what makes the houses as they are; behind: what shows, between seconds, what cannot be looked at. */
    Twins(Check check, Deed before, Deed behind) {
        this.check = check;
        this.before = before;
        this.behind = behind;
    }

    /** The call is refused with the answer that is due, and what was there stays. */
    void refused(String what, Call call, long due) {
        refused(what, house -> { }, call, due);
    }

    /** The same, where both houses get some calls first. */
    void refused(String what, Deed more, Call call, long due) {
        BreweryHouse one = new BreweryHouse();
        BreweryHouse other = new BreweryHouse();
        before.on(one);
        before.on(other);
        more.on(one);
        more.on(other);
        check.due(what, call.on(one), due);
        same(what, one, other);
        behind.on(one);
        behind.on(other);
        one.tick(1);
        other.tick(1);
        same(what + ", a second later", one, other);
    }

    private void same(String what, BreweryHouse one, BreweryHouse other) {
        String got = look(one);
        String due = look(other);
        if (!got.equals(due)) {
            System.out.println(got);
            System.out.println(due);
        }
        check.due(what + ": what was there stays", got.equals(due), true);
    }

    /** All that can be looked at, in some 200 calls: an object is used for 512. */
    static String look(BreweryHouse h) {
        StringBuilder all = new StringBuilder();
        all.append("second ").append(h.second()).append(" state ").append(h.state());
        for (int x = 0; x < 8; x++) {
            for (int what = 0; what < 5; what++) {
                all.append(what == 0 ? " space " : ",").append(h.space(x, what));
            }
        }
        for (int k = 0; k < 2; k++) {
            for (int what = 0; what < 6; what++) {
                all.append(what == 0 ? " way " : ",").append(h.way(k, what));
            }
        }
        for (int row = 1; row < 4; row++) {
            for (int what = 0; what < 4; what++) {
                all.append(what == 0 ? " row " : ",").append(h.row(row, what));
            }
        }
        for (int k = 0; k < 6; k++) {
            all.append(k == 0 ? " bars " : ",").append(h.bars(k));
        }
        for (int k = 0; k < 6; k++) {
            all.append(" value ").append(h.value(k)).append(" still ").append(h.still(k));
        }
        for (int k = 0; k < 5; k++) {
            for (int what = 0; what < 3; what++) {
                all.append(what == 0 ? " alarm " : ",").append(h.alarm(k, what));
            }
        }
        for (int i = 0; i < 120; i += 7) {
            all.append(i == 0 ? " write " : ",").append(h.write(i));
        }
        return all.append(" danger ").append(h.danger(0)).toString();
    }
}
