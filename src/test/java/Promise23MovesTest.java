/** Promise 23: moves: MOVES FROM A ROW on a SHELF, from place i on, n (1 .. 12) of them: how many came. BAD, -12. */
public final class Promise23MovesTest {
    private Promise23MovesTest() {
    }

    public static void main(String[] args) {
        oneToTwelve();
        nothingIsMissing();
        noRowOfShorts();
        rowEnds();
        oneMayNotBe();
        planIsFull();
        inTheirOrder();
        rowStays();
        refused();
        Due.end();
    }

    /** Shelf 1: a row of so many waits of a minute. */
    private static RoundPoint waits(int n) {
        RoundPoint x = Shore.strait("0:0", 0, 10000);
        x.row(1, 1, n);
        for (int i = 0; i < n; i++) {
            x.put(1, i, 101);
        }
        return x;
    }

    private static void oneToTwelve() {
        Due.is("23 none", waits(20).moves(1, 0, 0), RoundPoint.BAD);
        Due.is("23 one", waits(20).moves(1, 0, 1), 1);
        Due.is("23 twelve", waits(20).moves(1, 0, 12), 12);
        Due.is("23 thirteen", waits(20).moves(1, 0, 13), RoundPoint.BAD);
        RoundPoint x = waits(60);
        Due.is("23 the last of sixty", x.moves(1, 59, 1), 1);
        Due.is("23 the last twelve of sixty", waits(60).moves(1, 48, 12), 12);
        Due.is("23 twelve from the last eleven", waits(60).moves(1, 49, 12), 11);
    }

    /** A SHELF that holds nothing is missing: none came. */
    private static void nothingIsMissing() {
        RoundPoint x = waits(3);
        for (int shelf : new int[] {0, 2, 5}) {
            Due.is("23 nothing on " + shelf, x.moves(shelf, 0, 1), 0);
        }
        Due.is("23 held no more", x.keep(1, -1), 1);
        Due.is("23 gone", x.moves(1, 0, 1), 0);
        Due.is("23 none came", x.count(5), 0);
    }

    private static void noRowOfShorts() {
        RoundPoint x = waits(3);
        x.body(0);
        x.keep(0, 0);
        Due.is("23 a body", x.moves(0, 0, 1), -12);
        for (int sort : new int[] {0, 2, 3, 4}) {
            x.row(0, sort, 3);
            Due.is("23 a row of sort " + sort, x.moves(0, 0, 1), -12);
            Due.is("23 wherever, of sort " + sort, x.moves(0, 99, 12), -12);
            x.row(0, sort, 0);
            Due.is("23 of none, of sort " + sort, x.moves(0, 0, 1), -12);
        }
        Due.is("23 none came", x.count(5), 0);
        x.row(0, 1, 3);
        Due.is("23 a row of shorts: way 0 thrice", x.moves(0, 0, 3), 3);
    }

    private static void rowEnds() {
        Due.is("23 just to its end", waits(5).moves(1, 3, 2), 2);
        Due.is("23 beyond its end", waits(5).moves(1, 3, 3), 2);
        Due.is("23 the last", waits(5).moves(1, 4, 12), 1);
        Due.is("23 behind its end", waits(5).moves(1, 5, 1), 0);
        Due.is("23 far behind", waits(5).moves(1, Integer.MAX_VALUE, 12), 0);
        Due.is("23 ahead of it", waits(5).moves(1, -1, 12), 0);
        Due.is("23 far ahead", waits(5).moves(1, Integer.MIN_VALUE, 12), 0);
        Due.is("23 a row of none", waits(0).moves(1, 0, 12), 0);
        Due.is("23 a row of one", waits(1).moves(1, 0, 12), 1);
    }

    private static void oneMayNotBe() {
        int[] wrong = {-1, 1, 23, 24, 99, 100, 341, 32767, -32768};
        for (int v : wrong) {
            RoundPoint x = waits(5);
            x.put(1, 2, v);
            Due.is("23 two ahead of " + v, x.moves(1, 0, 5), 2);
            Due.is("23 they came ahead of " + v, x.count(5), 2);
            Due.is("23 at once at " + v, x.moves(1, 2, 1), 0);
            Due.is("23 behind " + v, x.moves(1, 3, 2), 2);
        }
        int[] right = {0, 101, 340};
        for (int v : right) {
            RoundPoint x = waits(5);
            x.put(1, 2, v);
            Due.is("23 all with " + v, x.moves(1, 0, 5), 5);
        }
        // 65536 more is kept as the same short
        RoundPoint x = waits(5);
        x.put(1, 2, 65536 + 340);
        Due.is("23 as the short keeps it", x.moves(1, 2, 1), 1);
        Due.is("23 a wait of 240", x.judge(0, 0, 0, 1), 240);
    }

    private static void planIsFull() {
        RoundPoint x = waits(20);
        Due.is("23 eight", x.moves(1, 0, 8), 8);
        Due.is("23 just four more", x.moves(1, 0, 4), 4);
        Due.is("23 full", x.moves(1, 0, 1), 0);
        Due.is("23 twelve", x.count(5), 12);
        RoundPoint y = waits(20);
        y.moves(1, 0, 8);
        Due.is("23 four of five", y.moves(1, 0, 5), 4);
        Due.is("23 those ahead came", y.count(5), 12);
        RoundPoint z = waits(20);
        z.moves(1, 0, 11);
        Due.is("23 one of twelve", z.moves(1, 0, 12), 1);
        z.put(1, 0, 100);
        Due.is("23 full, and one may not be", z.moves(1, 0, 1), 0);
    }

    private static void inTheirOrder() {
        RoundPoint x = Shore.of("0:0", 0, 0, 0);
        x.way(1, 10000);
        x.way(102, 10000);
        Shore.row(x, 3, 1, 7, 0, 105, 1, 7);
        Due.is("23 three", x.moves(3, 1, 3), 3);
        Due.is("23 on, waiting, on", x.judge(0, 0, 0, 1), 26);
        Due.is("23 to the far place", x.judge(0, 0, 0, 2), 2);
        x.move(101);
        Due.is("23 more behind them", x.judge(0, 0, 0, 1), 27);
    }

    private static void rowStays() {
        RoundPoint x = waits(3);
        x.moves(1, 0, 3);
        for (int i = 0; i < 3; i++) {
            Due.is("23 the row stays", x.element(1, i), 101);
        }
        x.row(1, 1, 0);
        Due.is("23 the plan stays", x.count(5), 3);
    }

    private static void refused() {
        Refused.some("23 wrong", RoundPoint.BAD, x -> x.moves(-1, 0, 1), x -> x.moves(6, 0, 1), x -> x.moves(1, 0, 0),
            x -> x.moves(1, 0, 13), x -> x.moves(1, 0, -1), x -> x.moves(Integer.MAX_VALUE, 0, 1),
            x -> x.moves(Integer.MIN_VALUE, 0, 1), x -> x.moves(1, 0, Integer.MAX_VALUE), x -> x.moves(1, 0, Integer.MIN_VALUE),
            x -> x.moves(0, 0, 13), x -> x.moves(4, 0, 0));
        Refused.some("23 another kind", -12, x -> x.moves(0, 0, 1), x -> x.moves(2, 0, 1), x -> x.moves(3, 0, 12),
            x -> x.moves(5, -1, 1));
        Refused.some("23 none come", 0, x -> x.moves(4, 0, 12), x -> x.moves(1, 4, 1), x -> x.moves(1, -1, 1));
        Refused.full("23 full", 0, x -> x.moves(1, 0, 12), x -> x.moves(1, 59, 1), x -> x.moves(5, 0, 1));
    }
}
