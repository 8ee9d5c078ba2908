/** Promise 37: row: A SHELF holds a ROW: 1. BAD (sort, n above 60); -14. */
public final class Promise37RowTest {
    private Promise37RowTest() {
    }

    public static void main(String[] args) {
        sortsFromNoughtTo4();
        fromNoughtTo60();
        sizeBelowNought();
        noughtAtFirst();
        noughtAnew();
        overWhatItHeld();
        shelvesFromNoughtTo5();
        refused();
        Due.end();
    }

    private static void sortsFromNoughtTo4() {
        RoundPoint x = new RoundPoint();
        Due.is("37 sort below", x.row(0, -1, 1), RoundPoint.BAD);
        Due.is("37 nothing came of it", x.put(0, 0, 1), -11);
        long[] kept = {-1, -1, -1, -1, 1};
        for (int sort = 0; sort < 5; sort++) {
            Due.is("37 sort " + sort, x.row(0, sort, 1), 1);
            x.put(0, 0, -1);
            Due.is("37 sort kept as " + sort, x.element(0, 0), kept[sort]);
        }
        Due.is("37 sort above", x.row(0, 5, 1), RoundPoint.BAD);
        Due.is("37 what it held it holds", x.element(0, 0), 1);
    }

    private static void fromNoughtTo60() {
        for (int sort = 0; sort < 5; sort++) {
            RoundPoint x = new RoundPoint();
            Due.is("37 none", x.row(0, sort, 0), 1);
            Due.is("37 has none", x.put(0, 0, 1), -13);
            Due.is("37 one", x.row(0, sort, 1), 1);
            Due.is("37 has one", x.put(0, 0, 1), 1);
            Due.is("37 has no second", x.put(0, 1, 1), -13);
            Due.is("37 sixty", x.row(0, sort, 60), 1);
            Due.is("37 has a sixtieth", x.put(0, 59, 1), 1);
            Due.is("37 has no more", x.put(0, 60, 1), -13);
            Due.is("37 sixty-one", x.row(0, sort, 61), RoundPoint.BAD);
            Due.is("37 sixty as they were", x.element(0, 59), 1);
        }
    }

    private static void sizeBelowNought() {
        RoundPoint x = new RoundPoint();
        Due.is("37 just below", x.row(0, 0, -1), -14);
        Due.is("37 far below", x.row(0, 4, Integer.MIN_VALUE), -14);
        Due.is("37 nothing came of it", x.put(0, 0, 1), -11);
        Due.is("37 bad sort ahead of it", x.row(0, 5, -1), RoundPoint.BAD);
        Due.is("37 bad shelf ahead of it", x.row(6, 0, -1), RoundPoint.BAD);
    }

    private static void noughtAtFirst() {
        for (int sort = 0; sort < 5; sort++) {
            RoundPoint x = new RoundPoint();
            x.row(5, sort, 60);
            for (int i = 0; i < 60; i++) {
                Due.is("37 nought of sort " + sort, x.element(5, i), 0);
            }
        }
    }

    /** A new ROW has nothing of the one ahead. */
    private static void noughtAnew() {
        RoundPoint x = new RoundPoint();
        for (int sort = 0; sort < 5; sort++) {
            x.row(0, sort, 60);
            for (int i = 0; i < 60; i++) {
                x.put(0, i, 1);
            }
            x.row(0, sort, 2);
            Due.is("37 a short one's first", x.element(0, 0), 0);
            Due.is("37 a short one's last", x.element(0, 1), 0);
            x.row(0, 4 - sort, 60);
            Due.is("37 a long one's first", x.element(0, 0), 0);
            Due.is("37 a long one's last", x.element(0, 59), 0);
        }
    }

    private static void overWhatItHeld() {
        RoundPoint x = new RoundPoint();
        x.body(0);
        x.keep(0, 0);
        Due.is("37 over a body", x.row(0, 1, 1), 1);
        Due.is("37 no body now", x.taken(0, 0), -12);
        Due.is("37 a row now", x.put(0, 0, 1), 1);
        Due.is("37 over a row of another sort", x.row(0, 4, 1), 1);
        x.put(0, 0, 7);
        Due.is("37 it is of booleans", x.element(0, 0), 1);
    }

    private static void shelvesFromNoughtTo5() {
        RoundPoint x = new RoundPoint();
        for (int shelf = 0; shelf < 6; shelf++) {
            Due.is("37 shelf " + shelf, x.row(shelf, 2, shelf + 1), 1);
            x.put(shelf, shelf, 10 * shelf + 1);
        }
        for (int shelf = 0; shelf < 6; shelf++) {
            Due.is("37 on shelf " + shelf, x.element(shelf, shelf), 10 * shelf + 1);
            Due.is("37 so long on shelf " + shelf, x.put(shelf, shelf + 1, 1), -13);
        }
        Due.is("37 no shelf 6", x.row(6, 2, 1), RoundPoint.BAD);
        Due.is("37 no shelf below", x.row(-1, 2, 1), RoundPoint.BAD);
    }

    private static void refused() {
        Refused.some("37 wrong", RoundPoint.BAD, x -> x.row(-1, 0, 1), x -> x.row(6, 0, 1), x -> x.row(1, -1, 1),
            x -> x.row(1, 5, 1), x -> x.row(1, 1, 61), x -> x.row(0, 0, 61), x -> x.row(4, 5, -1), x -> x.row(6, 0, -1),
            x -> x.row(Integer.MAX_VALUE, 0, 1), x -> x.row(Integer.MIN_VALUE, 0, 1), x -> x.row(1, Integer.MAX_VALUE, 1),
            x -> x.row(1, Integer.MIN_VALUE, 1), x -> x.row(1, 1, Integer.MAX_VALUE));
        Refused.some("37 a size below 0", -14, x -> x.row(0, 0, -1), x -> x.row(1, 1, -1), x -> x.row(4, 4, -60),
            x -> x.row(5, 3, Integer.MIN_VALUE));
    }
}
