/** Promise 40: shift: n elements of a ROW from i on come to another one (or the same) from j on, as they all were before: n. BAD, -11, -12, -13. */
public final class Promise40ShiftTest {
    private Promise40ShiftTest() {
    }

    public static void main(String[] args) {
        toAnother();
        ontoItself();
        fromNone();
        edges();
        everySort();
        order();
        refused();
        Due.end();
    }

    /** Shelf 0: ints 1 to 5; shelf 1: three ints; both of this sort. */
    private static RoundPoint rows(int sort) {
        RoundPoint x = new RoundPoint();
        Shore.row(x, 0, sort, 1, 2, 3, 4, 5);
        Shore.row(x, 1, sort, 7, 8, 9);
        return x;
    }

    private static void are(RoundPoint x, int shelf, long... due) {
        for (int i = 0; i < due.length; i++) {
            Due.is("40 shelf " + shelf + " at " + i, x.element(shelf, i), due[i]);
        }
        Due.is("40 shelf " + shelf + " is no longer", x.element(shelf, due.length), Long.MIN_VALUE);
    }

    private static void toAnother() {
        RoundPoint x = rows(2);
        Due.is("40 two", x.shift(0, 3, 1, 1, 2), 2);
        are(x, 0, 1, 2, 3, 4, 5);
        are(x, 1, 7, 4, 5);
        Due.is("40 all that there is room for", x.shift(0, 0, 1, 0, 3), 3);
        are(x, 1, 1, 2, 3);
        Due.is("40 all of the shorter one", x.shift(1, 0, 0, 2, 3), 3);
        are(x, 0, 1, 2, 1, 2, 3);
        x.put(1, 0, 99);
        are(x, 0, 1, 2, 1, 2, 3);
    }

    /** As they all were before, on and back. */
    private static void ontoItself() {
        RoundPoint on = rows(2);
        Due.is("40 on by one", on.shift(0, 0, 0, 1, 4), 4);
        are(on, 0, 1, 1, 2, 3, 4);
        RoundPoint far = rows(2);
        Due.is("40 on by two", far.shift(0, 0, 0, 2, 3), 3);
        are(far, 0, 1, 2, 1, 2, 3);
        RoundPoint back = rows(2);
        Due.is("40 back by one", back.shift(0, 1, 0, 0, 4), 4);
        are(back, 0, 2, 3, 4, 5, 5);
        RoundPoint still = rows(2);
        Due.is("40 where they are", still.shift(0, 0, 0, 0, 5), 5);
        are(still, 0, 1, 2, 3, 4, 5);
        RoundPoint x = new RoundPoint();
        x.row(2, 3, 60);
        for (int i = 0; i < 60; i++) {
            x.put(2, i, i);
        }
        Due.is("40 on by one of sixty", x.shift(2, 0, 2, 1, 59), 59);
        for (int i = 0; i < 60; i++) {
            Due.is("40 of sixty at " + i, x.element(2, i), Math.max(0, i - 1));
        }
    }

    private static void fromNone() {
        RoundPoint x = rows(2);
        Due.is("40 none", x.shift(0, 0, 1, 0, 0), 0);
        Due.is("40 none at both ends", x.shift(0, 5, 1, 3, 0), 0);
        Due.is("40 none behind the end", x.shift(0, 6, 1, 0, 0), -13);
        Due.is("40 none to behind the end", x.shift(0, 0, 1, 4, 0), -13);
        Due.is("40 none ahead", x.shift(0, -1, 1, 0, 0), -13);
        Due.is("40 none to ahead", x.shift(0, 0, 1, -1, 0), -13);
        are(x, 1, 7, 8, 9);
        x.row(2, 2, 0);
        Due.is("40 none of none", x.shift(2, 0, 2, 0, 0), 0);
        Due.is("40 one of none", x.shift(2, 0, 1, 0, 1), -13);
        Due.is("40 one to none", x.shift(1, 0, 2, 0, 1), -13);
    }

    private static void edges() {
        RoundPoint x = rows(2);
        Due.is("40 just to the end", x.shift(0, 4, 1, 2, 1), 1);
        are(x, 1, 7, 8, 5);
        Due.is("40 one behind the end", x.shift(0, 5, 1, 2, 1), -13);
        Due.is("40 one to behind the end", x.shift(0, 4, 1, 3, 1), -13);
        Due.is("40 two from the last", x.shift(0, 4, 1, 0, 2), -13);
        Due.is("40 two to the last", x.shift(0, 0, 1, 2, 2), -13);
        Due.is("40 more than there are", x.shift(1, 0, 0, 0, 4), -13);
        Due.is("40 more than there is room", x.shift(0, 0, 1, 0, 4), -13);
        Due.is("40 nothing came of these", x.element(0, 0), 1);
        are(x, 1, 7, 8, 5);
    }

    private static void everySort() {
        for (int sort = 0; sort < 5; sort++) {
            RoundPoint x = rows(sort);
            x.put(1, 0, 0);
            Due.is("40 sort " + sort, x.shift(0, 4, 1, 0, 1), 1);
            Due.is("40 came in sort " + sort, x.element(1, 0), sort == 4 ? 1 : 5);
            for (int other = 0; other < 5; other++) {
                x.row(2, other, 5);
                Due.is("40 sort " + sort + " to " + other, x.shift(0, 0, 2, 0, 5), sort == other ? 5 : -12);
                Due.is("40 last of " + sort + " to " + other, x.element(2, 4), sort != other ? 0 : sort == 4 ? 1 : 5);
            }
        }
    }

    /** BAD, -11 (either), -12, -13. */
    private static void order() {
        RoundPoint x = Shore.some();
        Due.is("40 bad from, nothing to", x.shift(6, 0, 4, 0, 1), RoundPoint.BAD);
        Due.is("40 nothing from, bad to", x.shift(4, 0, 6, 0, 1), RoundPoint.BAD);
        Due.is("40 a body from, nothing to", x.shift(0, 0, 4, 0, 1), -11);
        Due.is("40 nothing from, a body to", x.shift(4, 0, 0, 0, 1), -11);
        Due.is("40 nothing both", x.shift(4, 0, 4, 0, 1), -11);
        Due.is("40 nothing, no place", x.shift(4, -1, 1, 99, 1), -11);
        Due.is("40 a body from, a row to, no place", x.shift(0, -1, 1, 99, 1), -12);
        Due.is("40 a row from, a body to, no place", x.shift(1, -1, 0, 99, 1), -12);
        Due.is("40 a body both", x.shift(0, 0, 0, 0, 0), -12);
        Due.is("40 unlike sorts, no place", x.shift(1, -1, 2, 99, 1), -12);
        Due.is("40 unlike sorts, none", x.shift(1, 0, 2, 0, 0), -12);
    }

    private static void refused() {
        Refused.some("40 no such shelf", RoundPoint.BAD, x -> x.shift(-1, 0, 1, 0, 1), x -> x.shift(6, 0, 1, 0, 1),
            x -> x.shift(1, 0, -1, 0, 1), x -> x.shift(1, 0, 6, 0, 1), x -> x.shift(Integer.MAX_VALUE, 0, 1, 0, 1),
            x -> x.shift(1, 0, Integer.MIN_VALUE, 0, 1));
        Refused.some("40 nothing", -11, x -> x.shift(4, 0, 1, 0, 1), x -> x.shift(1, 0, 4, 0, 1));
        Refused.some("40 another kind", -12, x -> x.shift(0, 0, 1, 0, 1), x -> x.shift(1, 0, 0, 0, 1),
            x -> x.shift(1, 0, 2, 0, 1), x -> x.shift(2, 0, 3, 0, 1), x -> x.shift(5, 0, 2, 0, 1));
        Refused.some("40 no such place", -13, x -> x.shift(1, -1, 1, 0, 1), x -> x.shift(1, 0, 1, -1, 1),
            x -> x.shift(1, 4, 1, 0, 1), x -> x.shift(1, 0, 1, 4, 1), x -> x.shift(1, 1, 1, 0, 4), x -> x.shift(1, 0, 1, 1, 4),
            x -> x.shift(1, 0, 1, 0, 5), x -> x.shift(1, 0, 1, 0, -1), x -> x.shift(1, Integer.MAX_VALUE, 1, 0, 1),
            x -> x.shift(1, 1, 1, 0, Integer.MAX_VALUE), x -> x.shift(1, 0, 1, Integer.MAX_VALUE, Integer.MAX_VALUE),
            x -> x.shift(1, Integer.MIN_VALUE, 1, 0, 1), x -> x.shift(1, 0, 1, 0, Integer.MIN_VALUE));
    }
}
