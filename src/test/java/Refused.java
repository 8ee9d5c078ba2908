import java.util.ArrayList;
import java.util.List;

/**
 * Calls that are refused: they answer as is due, and all stays as it was. For the latter a twin is told the same but for
 * the refused calls; whatever both are asked or told from then on they must answer alike.
 */
final class Refused {
    interface Call {
        long on(RoundPoint x);
    }

    interface Maker {
        RoundPoint make();
    }

    private Refused() {
    }

    /** On an object with some of everything. */
    static void some(String what, long due, Call... calls) {
        on(Shore::some, what, due, calls);
    }

    /** On an object that holds as much as it can. */
    static void full(String what, long due, Call... calls) {
        on(Shore::full, what, due, calls);
    }

    static void on(Maker maker, String what, long due, Call... calls) {
        for (int follow = 0; follow < 2; follow++) {
            RoundPoint x = maker.make();
            RoundPoint twin = maker.make();
            for (int i = 0; i < calls.length; i++) {
                Due.is(what + ", call " + i, calls[i].on(x), due);
            }
            List<Long> got = follow == 0 ? told(x) : changed(x);
            List<Long> want = follow == 0 ? told(twin) : changed(twin);
            for (int i = 0; i < want.size(); i++) {
                Due.is(what + ": all stays, " + (follow == 0 ? "told " : "changed ") + i, got.get(i), want.get(i));
            }
        }
    }

    private static void counts(RoundPoint x, List<Long> seen) {
        for (int what = 0; what < 10; what++) {
            seen.add((long) x.count(what));
        }
    }

    /** What it holds as it stands: some 250 calls. */
    private static List<Long> told(RoundPoint x) {
        List<Long> seen = new ArrayList<>();
        counts(x, seen);
        for (int i = 0; i < 11; i++) {
            seen.add((long) x.trace(i));
        }
        for (int shelf = 0; shelf < 6; shelf++) {
            seen.add((long) x.taken(shelf, 0));
            for (int i = 0; i < 5; i++) {
                seen.add(x.element(shelf, i));
            }
        }
        for (int i = 0; i < 10; i++) {
            seen.add((long) x.sea(i, 0, 100));
            seen.add((long) x.sea(0, i / 2, 200 + i));
        }
        for (int what = 0; what < 3; what++) {
            seen.add((long) x.judge(10, 0, 0, what));
        }
        seen.add((long) x.chance(20, 0));
        seen.add((long) x.old(0));
        seen.add((long) x.tide());
        numbers(x, seen);
        seen.add((long) x.drop());
        seen.add((long) x.unmark());
        return seen;
    }

    /** Telling a number answers what it was. */
    private static void numbers(RoundPoint x, List<Long> seen) {
        for (int way = 0; way < 24; way++) {
            seen.add((long) x.takes(way, 0, 1));
            seen.add((long) x.alter(way, 0, 8));
            seen.add((long) x.alter(way, 1, 0));
            seen.add((long) x.alter(way, 2, 1439));
        }
        for (int place = 0; place < 12; place++) {
            seen.add((long) x.safe(place, 7));
        }
        for (int sort = 0; sort < 4; sort++) {
            seen.add((long) x.sort(sort, 200));
        }
        seen.add((long) x.light(0, 0));
        seen.add((long) x.light(1, 1439));
    }

    /** What can still be DONE AGAIN and UNDONE, and how it goes on: some 230 calls. */
    private static List<Long> changed(RoundPoint x) {
        List<Long> seen = new ArrayList<>();
        for (int i = 0; i < 3; i++) {
            seen.add((long) x.redo());
        }
        for (int i = 0; i < 42; i++) {
            seen.add((long) x.undo());
        }
        for (int way = 0; way < 24; way++) {
            seen.add((long) x.alter(way, 0, 8));
        }
        seen.add((long) x.safe(3, 8));
        seen.add((long) x.sort(1, 200));
        for (int body = 0; body < 50; body++) {
            seen.add((long) x.act(body, 3, 1));
        }
        for (int shelf = 0; shelf < 6; shelf++) {
            seen.add((long) x.put(shelf, 0, 0x123456789L));
            seen.add(x.element(shelf, 0));
        }
        seen.add((long) x.feed(1, '0'));
        seen.add((long) x.tide());
        seen.add((long) x.wind(1, 1, 1));
        seen.add((long) x.place(77));
        seen.add((long) x.way(1, 20200));
        seen.add((long) x.move(0));
        seen.add((long) x.mark(1400));
        seen.add((long) x.body(6));
        counts(x, seen);
        return seen;
    }
}
