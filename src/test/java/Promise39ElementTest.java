/** Promise 39: element: Element i of a ROW; Long.MIN_VALUE: BAD, -11 to -13. */
public final class Promise39ElementTest {
    private Promise39ElementTest() {
    }

    public static void main(String[] args) {
        edgesOfTheRow();
        everySort();
        refused();
        Due.end();
    }

    private static void edgesOfTheRow() {
        for (int n : new int[] {1, 5, 60}) {
            RoundPoint x = new RoundPoint();
            x.row(5, 3, n);
            for (int i = 0; i < n; i++) {
                x.put(5, i, 1000L * i - 7);
            }
            for (int i = 0; i < n; i++) {
                Due.is("39 at " + i + " of " + n, x.element(5, i), 1000L * i - 7);
            }
            Due.is("39 behind the last of " + n, x.element(5, n), Long.MIN_VALUE);
            Due.is("39 ahead of the first of " + n, x.element(5, -1), Long.MIN_VALUE);
        }
        RoundPoint x = new RoundPoint();
        x.row(5, 3, 0);
        Due.is("39 of none", x.element(5, 0), Long.MIN_VALUE);
    }

    private static void everySort() {
        long[] due = {-2, -2, -2, -2, 1};
        for (int sort = 0; sort < 5; sort++) {
            RoundPoint x = new RoundPoint();
            x.row(0, sort, 1);
            Due.is("39 nought of sort " + sort, x.element(0, 0), 0);
            x.put(0, 0, -2);
            Due.is("39 of sort " + sort, x.element(0, 0), due[sort]);
            Due.is("39 asked twice", x.element(0, 0), due[sort]);
        }
    }

    private static void refused() {
        Refused.some("39 wrong", Long.MIN_VALUE, x -> x.element(-1, 0), x -> x.element(6, 0), x -> x.element(4, 0),
            x -> x.element(0, 0), x -> x.element(1, 4), x -> x.element(1, -1), x -> x.element(2, 3), x -> x.element(5, 2),
            x -> x.element(Integer.MAX_VALUE, 0), x -> x.element(Integer.MIN_VALUE, 0), x -> x.element(1, Integer.MAX_VALUE),
            x -> x.element(1, Integer.MIN_VALUE));
        Refused.some("39 asked changes nothing", 105, x -> x.element(1, 2), x -> x.element(1, 2));
    }
}
