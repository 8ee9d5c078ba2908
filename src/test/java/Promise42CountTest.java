/**
 * Promise 42: count: How many: 0 TIDES, 1 WINDS, 2 PLACES, 3 WAYS, 4 bytes on THE TAPE, 5 moves, 6 marks, 7 changes that may
 * be UNDONE, 8 BODIES, 9 bodies that ran in the latest act() (all, kept or not). BAD.
 */
public final class Promise42CountTest {
    private Promise42CountTest() {
    }

    public static void main(String[] args) {
        empty();
        some();
        full();
        eachAlone();
        bodiesThatRan();
        changesThatMayBeUndone();
        edges();
        refused();
        Due.end();
    }

    private static void counts(String what, RoundPoint x, int... due) {
        for (int i = 0; i < due.length; i++) {
            Due.is("42 " + what + ", count " + i, x.count(i), due[i]);
        }
    }

    private static void empty() {
        counts("empty", new RoundPoint(), 0, 1, 0, 0, 0, 0, 0, 0, 0, 0);
    }

    private static void some() {
        counts("some", Shore.some(), 2, 3, 4, 4, 3, 3, 3, 4, 4, 10);
    }

    private static void full() {
        counts("full", Shore.full(), 10, 5, 12, 24, 120, 12, 6, 40, 50, 10);
    }

    /** Each call makes its own number more. */
    private static void eachAlone() {
        RoundPoint x = new RoundPoint();
        x.feed(3, '0' | ':' << 8 | '1' << 16);
        counts("a tape", x, 0, 1, 0, 0, 3, 0, 0, 0, 0, 0);
        x.tide();
        counts("a tide", x, 1, 1, 0, 0, 0, 0, 0, 0, 0, 0);
        x.wind(1, 1, 1);
        counts("a wind", x, 1, 2, 0, 0, 0, 0, 0, 0, 0, 0);
        x.place(0);
        x.place(0);
        counts("places", x, 1, 2, 2, 0, 0, 0, 0, 0, 0, 0);
        x.way(1, 1000);
        counts("a way", x, 1, 2, 2, 1, 0, 0, 0, 0, 0, 0);
        x.move(0);
        counts("a move", x, 1, 2, 2, 1, 0, 1, 0, 0, 0, 0);
        x.mark(0);
        counts("a mark", x, 1, 2, 2, 1, 0, 1, 1, 0, 0, 0);
        x.safe(0, 1);
        counts("a change", x, 1, 2, 2, 1, 0, 1, 1, 1, 0, 0);
        x.body(0);
        counts("a body", x, 1, 2, 2, 1, 0, 1, 1, 1, 1, 0);
        x.act(0, 3, 1);
        counts("an act", x, 1, 2, 2, 1, 0, 1, 1, 1, 1, 4);
        x.unmark();
        x.drop();
        x.undo();
        counts("less again", x, 1, 2, 2, 1, 0, 0, 0, 0, 1, 4);
    }

    private static void bodiesThatRan() {
        int[][] due = {{1, 2, 1, 4}, {2, 3, 1, 5}, {1, 3, 1, 5}, {1, 4, 2, 7}, {1, 2, 1, 5}, {3, 4, 5, 10}, {1, 4, 1, 6}};
        RoundPoint x = new RoundPoint();
        for (int kind = 0; kind < 7; kind++) {
            x.body(kind);
            Due.is("42 none of the new one ran", x.count(9), kind == 0 ? 0 : due[kind - 1][3]);
            for (int act = 0; act < 4; act++) {
                x.act(kind, act, 5);
                Due.is("42 ran of kind " + kind + " act " + act, x.count(9), due[kind][act]);
            }
        }
        x.act(7, 0, 5);
        Due.is("42 none ran", x.count(9), 0);
    }

    private static void changesThatMayBeUndone() {
        RoundPoint x = new RoundPoint();
        x.place(0);
        for (int v = 1; v <= 41; v++) {
            x.safe(0, v);
            Due.is("42 told " + v, x.count(7), Math.min(v, 40));
        }
        x.undo();
        Due.is("42 one less", x.count(7), 39);
        x.redo();
        Due.is("42 one more", x.count(7), 40);
        x.undo();
        x.undo();
        x.safe(0, 700);
        Due.is("42 another behind", x.count(7), 39);
    }

    private static void edges() {
        RoundPoint x = Shore.some();
        Due.is("42 below", x.count(-1), RoundPoint.BAD);
        Due.is("42 the first", x.count(0), 2);
        Due.is("42 the last", x.count(9), 10);
        Due.is("42 above", x.count(10), RoundPoint.BAD);
    }

    private static void refused() {
        Refused.some("42 wrong", RoundPoint.BAD, x -> x.count(-1), x -> x.count(10), x -> x.count(Integer.MAX_VALUE),
            x -> x.count(Integer.MIN_VALUE));
    }
}
