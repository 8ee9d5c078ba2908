/** Promise 27: chance: CHANCE of THE PLAN. BAD. */
public final class Promise27ChanceTest {
    private Promise27ChanceTest() {
    }

    public static void main(String[] args) {
        noMoves();
        oneWind();
        thousandthsAreCut();
        allMovesMustGo();
        fiveWinds();
        edgesOfTheDay();
        byTideAndSort();
        refused();
        Due.end();
    }

    private static void noMoves() {
        RoundPoint x = Shore.of("0:50", 0);
        Due.is("27 no moves", x.chance(5, 0), 1000);
        x.wind(9, 9, 9);
        Due.is("27 no moves in two winds", x.chance(1439, 0), 1000);
    }

    private static void oneWind() {
        RoundPoint x = Shore.strait("0:50", 50, 10050);
        Shore.plan(x, 0);
        Due.is("27 it goes", x.chance(0, 0), 1000);
        x.alter(0, 0, 49);
        Due.is("27 it does not", x.chance(0, 0), 0);
    }

    private static void thousandthsAreCut() {
        RoundPoint x = Shore.strait("0:50", 50, 10050);
        Shore.plan(x, 0);
        x.wind(1, 0, 1);
        Due.is("27 a half", x.chance(0, 0), 500);
        x.wind(2, 0, 1);
        Due.is("27 a third", x.chance(0, 0), 333);
        x.alter(0, 0, 51);
        Due.is("27 two thirds", x.chance(0, 0), 666);
        x.alter(0, 0, 52);
        Due.is("27 all", x.chance(0, 0), 1000);
        RoundPoint y = Shore.strait("0:50", 50, 10050);
        Shore.plan(y, 0);
        for (int wind = 1; wind < 5; wind++) {
            y.wind(1, 0, 99);
        }
        Due.is("27 1 of 397", y.chance(0, 0), 2);
    }

    private static void allMovesMustGo() {
        RoundPoint x = Shore.strait("0:50", 52, 10052);
        x.wind(1, 0, 2);
        x.wind(2, 0, 4);
        Shore.plan(x, 0, 101, 0);
        Due.is("27 all three in all", x.chance(0, 0), 1000);
        x.safe(1, 51);
        Due.is("27 the wait not in the third", x.chance(0, 0), 428);
        x.safe(1, 49);
        Due.is("27 the wait in none", x.chance(0, 0), 0);
        x.safe(1, 99);
        x.alter(0, 0, 51);
        Due.is("27 the ways not in the third", x.chance(0, 0), 428);
        Due.is("27 not one that does not lead on", x.chance(10000, 0), 428);
        x.place(0);
        Due.is("27 leads on from nowhere", x.chance(20000, 0), 0);
    }

    private static void fiveWinds() {
        RoundPoint x = Shore.strait("0:50", 99, 10050);
        for (int wind = 1; wind < 5; wind++) {
            x.wind(wind, 0, 10 * wind);
        }
        Shore.plan(x, 0);
        int[] sum = {1, 11, 31, 61, 101};
        for (int more = 0; more < 5; more++) {
            x.alter(0, 0, 50 + more);
            Due.is("27 of five, more " + more, x.chance(0, 0), sum[more] * 1000 / 101);
        }
        x.alter(0, 0, 49);
        Due.is("27 of five none", x.chance(0, 0), 0);
    }

    private static void edgesOfTheDay() {
        RoundPoint x = Shore.strait("0:0", 0, 10000);
        Shore.plan(x, 0);
        Due.is("27 there at the last minute", x.chance(1429, 0), 1000);
        Due.is("27 a minute late", x.chance(1430, 0), 0);
        Due.is("27 by a slow sort", x.chance(1410, 30), 0);
        Due.is("27 by a slow sort in time", x.chance(1409, 30), 1000);
        Shore.hours(x, 0, 60, 100);
        Due.is("27 ahead of the first hour", x.chance(59, 0), 0);
        Due.is("27 at the first hour", x.chance(60, 0), 1000);
        Due.is("27 at the last hour", x.chance(100, 0), 1000);
        Due.is("27 behind the last hour", x.chance(101, 0), 0);
        x.light(1, 50);
        Due.is("27 dark is nothing to it", x.chance(60, 0), 1000);
    }

    /** st: 10 times the SORT, and the TIDE. */
    private static void byTideAndSort() {
        RoundPoint x = Shore.ten(0);
        Shore.plan(x, 0);
        for (int st = 0; st < 40; st++) {
            Due.is("27 st " + st, x.chance(1424, st), st % 10 <= 5 && st / 10 < 3 ? 1000 : 0);
        }
    }

    private static void refused() {
        RoundPoint full = Shore.full();
        full.drop();
        Due.is("27 the last of all", full.chance(111439, 39), 1000);
        Refused.some("27 wrong", RoundPoint.BAD, x -> x.chance(-1, 0), x -> x.chance(1440, 0), x -> x.chance(40000, 0),
            x -> x.chance(0, -1), x -> x.chance(0, 2), x -> x.chance(0, 40), x -> x.chance(Integer.MAX_VALUE, 0),
            x -> x.chance(Integer.MIN_VALUE, 0), x -> x.chance(0, Integer.MAX_VALUE), x -> x.chance(0, Integer.MIN_VALUE));
        Refused.full("27 wrong, full", RoundPoint.BAD, x -> x.chance(120000, 0), x -> x.chance(0, 40));
    }
}
