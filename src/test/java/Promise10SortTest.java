/** Promise 10: sort: Hundredths of a SORT become v: what they were. BAD. */
public final class Promise10SortTest {
    private Promise10SortTest() {
    }

    public static void main(String[] args) {
        atFirst();
        from50To400();
        walkedSo();
        aChange();
        refused();
        Due.end();
    }

    private static void atFirst() {
        RoundPoint x = new RoundPoint();
        int[] due = {100, 80, 150, 300};
        for (int sort = 0; sort < 4; sort++) {
            Due.is("10 at first, sort " + sort, x.sort(sort, 200 + sort), due[sort]);
        }
        for (int sort = 0; sort < 4; sort++) {
            Due.is("10 what they were, sort " + sort, x.sort(sort, 100), 200 + sort);
        }
    }

    private static void from50To400() {
        for (int sort = 0; sort < 4; sort++) {
            RoundPoint x = new RoundPoint();
            x.sort(sort, 111);
            Due.is("10 below", x.sort(sort, 49), RoundPoint.BAD);
            Due.is("10 the least", x.sort(sort, 50), 111);
            Due.is("10 above", x.sort(sort, 401), RoundPoint.BAD);
            Due.is("10 the most", x.sort(sort, 400), 50);
            Due.is("10 the same", x.sort(sort, 400), 400);
        }
    }

    private static void walkedSo() {
        RoundPoint x = Shore.strait("0:0", 0, 10000);
        x.sort(2, 50);
        Due.is("10 in half", x.soon(0, 1, 20, 1), 5);
        x.sort(2, 400);
        Due.is("10 in four times", x.soon(0, 1, 20, 1), 40);
        Due.is("10 another sort as it was", x.soon(0, 1, 10, 1), 8);
        Due.is("10 the last sort as it was", x.soon(0, 1, 30, 1), 30);
    }

    private static void aChange() {
        RoundPoint x = new RoundPoint();
        x.sort(3, 300);
        Due.is("10 the same number is none", x.count(7), 0);
        x.sort(3, 301);
        Due.is("10 another is one", x.count(7), 1);
        x.undo();
        Due.is("10 undone", x.sort(3, 300), 300);
    }

    private static void refused() {
        Refused.some("10 wrong", RoundPoint.BAD, x -> x.sort(-1, 100), x -> x.sort(4, 100), x -> x.sort(0, 49),
            x -> x.sort(3, 401), x -> x.sort(0, -100), x -> x.sort(Integer.MAX_VALUE, 100),
            x -> x.sort(Integer.MIN_VALUE, 100), x -> x.sort(0, Integer.MAX_VALUE), x -> x.sort(0, Integer.MIN_VALUE));
        Refused.some("10 the same number changes nothing", 90, x -> x.sort(1, 90), x -> x.sort(1, 90));
    }
}
