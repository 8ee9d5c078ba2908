/** Promise 41: taken: What a SHELF holds, taken for a BODY of KIND k (0 .. 6), or under it: its KIND. BAD, -11, -12. */
public final class Promise41TakenTest {
    private Promise41TakenTest() {
    }

    public static void main(String[] args) {
        ofTheKindOrUnderIt();
        nothingAndRows();
        edges();
        order();
        refused();
        Due.end();
    }

    /** STRAIGHT, WAIT, TWO, TOLD under PLAN; TURN under WAIT; SAFE under STRAIGHT. */
    private static void ofTheKindOrUnderIt() {
        String[] under = {"0", "01", "02", "023", "04", "015", "06"};
        RoundPoint x = new RoundPoint();
        for (int n = 0; n < 14; n++) {
            x.body(n % 7);
        }
        for (int kind = 0; kind < 7; kind++) {
            for (int n = kind; n < 14; n += 7) {
                x.keep(2, n);
                for (int k = 0; k < 7; k++) {
                    boolean is = under[kind].indexOf('0' + k) >= 0;
                    Due.is("41 kind " + kind + " taken for " + k, x.taken(2, k), is ? kind : -12);
                }
            }
        }
    }

    private static void nothingAndRows() {
        RoundPoint x = new RoundPoint();
        for (int shelf = 0; shelf < 6; shelf++) {
            Due.is("41 nothing on " + shelf, x.taken(shelf, 0), -11);
        }
        for (int sort = 0; sort < 5; sort++) {
            x.row(sort, sort, sort);
            Due.is("41 a row of sort " + sort, x.taken(sort, 0), -12);
            Due.is("41 a row of sort " + sort + " for 6", x.taken(sort, 6), -12);
        }
        x.body(6);
        x.keep(5, 0);
        Due.is("41 a body", x.taken(5, 6), 6);
        x.keep(5, -1);
        Due.is("41 nothing again", x.taken(5, 6), -11);
    }

    private static void edges() {
        RoundPoint x = new RoundPoint();
        x.body(6);
        x.keep(0, 0);
        x.keep(5, 0);
        Due.is("41 the first shelf and kind", x.taken(0, 0), 6);
        Due.is("41 the last shelf and kind", x.taken(5, 6), 6);
        Due.is("41 shelf below", x.taken(-1, 0), RoundPoint.BAD);
        Due.is("41 shelf above", x.taken(6, 6), RoundPoint.BAD);
        Due.is("41 kind below", x.taken(0, -1), RoundPoint.BAD);
        Due.is("41 kind above", x.taken(5, 7), RoundPoint.BAD);
    }

    private static void order() {
        RoundPoint x = Shore.some();
        Due.is("41 bad ahead of nothing", x.taken(4, 7), RoundPoint.BAD);
        Due.is("41 bad ahead of another kind", x.taken(1, 7), RoundPoint.BAD);
        Due.is("41 bad ahead of another body", x.taken(0, -1), RoundPoint.BAD);
    }

    private static void refused() {
        Refused.some("41 wrong", RoundPoint.BAD, x -> x.taken(-1, 0), x -> x.taken(6, 0), x -> x.taken(0, -1),
            x -> x.taken(0, 7), x -> x.taken(4, 7), x -> x.taken(Integer.MAX_VALUE, 0), x -> x.taken(Integer.MIN_VALUE, 0),
            x -> x.taken(0, Integer.MAX_VALUE), x -> x.taken(0, Integer.MIN_VALUE));
        Refused.some("41 nothing", -11, x -> x.taken(4, 0), x -> x.taken(4, 6));
        Refused.some("41 another kind", -12, x -> x.taken(0, 1), x -> x.taken(0, 4), x -> x.taken(0, 6), x -> x.taken(1, 0),
            x -> x.taken(5, 3));
        Refused.some("41 asked changes nothing", 3, x -> x.taken(0, 0), x -> x.taken(0, 2), x -> x.taken(0, 3));
    }
}
