/** Promise 5: sea: THE SEA on a TIDE in a WIND at a MINUTE. VOID: BAD. */
public final class Promise05SeaTest {
    private Promise05SeaTest() {
    }

    public static void main(String[] args) {
        aheadOfTheFirst();
        behindTheLast();
        between();
        cut();
        everyMinuteBetween();
        nextMinute();
        onePoint();
        held();
        belowNought();
        refused();
        Due.end();
    }

    private static void at(RoundPoint x, int wind, int minute, int due) {
        Due.is("5 wind " + wind + " at " + minute, x.sea(0, wind, minute), due);
    }

    private static void aheadOfTheFirst() {
        RoundPoint x = Shore.of("100:50;110:60");
        at(x, 0, 0, 50);
        at(x, 0, 99, 50);
        at(x, 0, 100, 50);
        at(x, 0, 101, 51);
    }

    private static void behindTheLast() {
        RoundPoint x = Shore.of("100:50;110:60");
        at(x, 0, 109, 59);
        at(x, 0, 110, 60);
        at(x, 0, 111, 60);
        at(x, 0, 1439, 60);
    }

    private static void between() {
        RoundPoint x = Shore.of("0:0;10:100;20:0;1439:999");
        at(x, 0, 0, 0);
        at(x, 0, 1, 10);
        at(x, 0, 9, 90);
        at(x, 0, 10, 100);
        at(x, 0, 11, 90);
        at(x, 0, 19, 10);
        at(x, 0, 20, 0);
        at(x, 0, 1439, 999);
    }

    /** (a (n - k) + b k) / n, cut: 100, 96.66, 93.33, 90; and up again: 5, 5.33, 5.66, 6. */
    private static void cut() {
        RoundPoint x = Shore.of("10:100;13:90;20:5;23:6");
        at(x, 0, 11, 96);
        at(x, 0, 12, 93);
        at(x, 0, 13, 90);
        at(x, 0, 21, 5);
        at(x, 0, 22, 5);
        at(x, 0, 23, 6);
    }

    private static void everyMinuteBetween() {
        RoundPoint x = Shore.of("3:999;303:1");
        RoundPoint y = Shore.of("0:0;300:998");
        for (int k = 0; k <= 300; k++) {
            Due.is("5 falling at " + k, x.sea(0, 0, 3 + k), (999 * (300 - k) + k) / 300);
            Due.is("5 rising at " + k, y.sea(0, 0, k), 998 * k / 300);
        }
    }

    private static void nextMinute() {
        RoundPoint x = Shore.of("0:0;500:0;501:50;502:0");
        at(x, 0, 500, 0);
        at(x, 0, 501, 50);
        at(x, 0, 502, 0);
    }

    private static void onePoint() {
        RoundPoint x = Shore.of("700:42");
        at(x, 0, 0, 42);
        at(x, 0, 699, 42);
        at(x, 0, 700, 42);
        at(x, 0, 701, 42);
        at(x, 0, 1439, 42);
    }

    /** MINUTE and EARLY are held within 0 .. 1439. */
    private static void held() {
        RoundPoint x = Shore.of("0:0;100:100;1339:100;1439:0");
        x.wind(0, 60, 1);
        x.wind(0, -60, 1);
        x.wind(0, 1, 1);
        x.wind(0, -1, 1);
        at(x, 1, 0, 60);
        at(x, 1, 1378, 1);
        at(x, 1, 1379, 0);
        at(x, 1, 1380, 0);
        at(x, 1, 1439, 0);
        at(x, 2, 0, 0);
        at(x, 2, 60, 0);
        at(x, 2, 61, 1);
        at(x, 2, 1439, 60);
        at(x, 3, 1438, 0);
        at(x, 3, 1439, 0);
        at(x, 4, 0, 0);
        at(x, 4, 1, 0);
        at(x, 4, 2, 1);
    }

    private static void belowNought() {
        RoundPoint x = Shore.of("0:0;1439:999");
        x.wind(-99, 0, 1);
        x.wind(99, 0, 1);
        at(x, 1, 0, -99);
        at(x, 2, 0, 99);
        at(x, 1, 1439, 900);
        at(x, 2, 1439, 1098);
    }

    private static void refused() {
        RoundPoint x = Shore.some();
        Due.is("5 the last tide", x.sea(1, 0, 0), 50);
        Due.is("5 the last wind", x.sea(0, 2, 60), 15);
        Due.is("5 the first minute", x.sea(0, 0, 0), 0);
        Due.is("5 the last minute", x.sea(0, 0, 1439), 0);
        Refused.some("5 wrong", RoundPoint.VOID, y -> y.sea(2, 0, 0), y -> y.sea(-1, 0, 0), y -> y.sea(0, 3, 0),
            y -> y.sea(0, -1, 0), y -> y.sea(0, 0, -1), y -> y.sea(0, 0, 1440), y -> y.sea(Integer.MAX_VALUE, 0, 0),
            y -> y.sea(0, Integer.MAX_VALUE, 0), y -> y.sea(0, 0, Integer.MAX_VALUE), y -> y.sea(Integer.MIN_VALUE, 0, 0),
            y -> y.sea(0, Integer.MIN_VALUE, 0), y -> y.sea(0, 0, Integer.MIN_VALUE));
        RoundPoint full = Shore.full();
        Due.is("5 tide 9 in wind 4", full.sea(9, 4, 1439), 94);
        Refused.full("5 wrong, full", RoundPoint.VOID, y -> y.sea(10, 4, 0), y -> y.sea(9, 5, 0));
    }
}
