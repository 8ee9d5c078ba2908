/** Promise 14: soon: SOON from fm to a PLACE. BAD; NOT. */
public final class Promise14SoonTest {
    private Promise14SoonTest() {
    }

    public static void main(String[] args) {
        whereOneIs();
        hoursAreBothIn();
        heightAtAllMinutes();
        withinTheDay();
        waitingDryAtBoth();
        wetWhereOneComes();
        wetWhereOneStarts();
        wearyThreeAtMost();
        wearyAtFirstNot();
        inEachWind();
        byTideAndSort();
        firstAndLastMinute();
        betweenPartsWithoutAWay();
        lightIsNothing();
        refused();
        Due.end();
    }

    private static void whereOneIs() {
        RoundPoint x = Shore.strait("0:50", 0, 10000);
        Due.is("14 at the first minute", x.soon(0, 0, 0, 1), 0);
        Due.is("14 at the last minute", x.soon(11439, 1, 0, 1), 1439);
        Due.is("14 nowhere else", x.soon(0, 1, 0, 1), RoundPoint.NOT);
    }

    private static void hoursAreBothIn() {
        RoundPoint x = Shore.strait("0:0", 0, 10000);
        Shore.hours(x, 0, 60, 100);
        Due.is("14 waiting for the first hour", x.soon(59, 1, 0, 1), 70);
        Due.is("14 at the first hour", x.soon(60, 1, 0, 1), 70);
        Due.is("14 at the last hour", x.soon(100, 1, 0, 1), 110);
        Due.is("14 behind the last hour", x.soon(101, 1, 0, 1), RoundPoint.NOT);
    }

    /** High at 501 alone. */
    private static void heightAtAllMinutes() {
        RoundPoint x = Shore.strait(Shore.SPIKE, 999, 10049);
        Due.is("14 there ahead of the height", x.soon(490, 1, 0, 1), 500);
        Due.is("14 high when one would come", x.soon(491, 1, 0, 1), 512);
        Due.is("14 high between", x.soon(496, 1, 0, 1), 512);
        Due.is("14 high at once", x.soon(501, 1, 0, 1), 512);
        Due.is("14 behind it", x.soon(502, 1, 0, 1), 512);
        x.alter(0, 0, 50);
        Due.is("14 at just its height", x.soon(491, 1, 0, 1), 501);
    }

    private static void withinTheDay() {
        RoundPoint x = Shore.strait("0:0", 0, 10000);
        Due.is("14 at the last minute there", x.soon(1429, 1, 0, 1), 1439);
        Due.is("14 a minute late", x.soon(1430, 1, 0, 1), RoundPoint.NOT);
        Due.is("14 at the last minute here", x.soon(1439, 1, 0, 1), RoundPoint.NOT);
    }

    /** WAITING from one MINUTE to the next, if it is DRY at both: wet at 501 alone. */
    private static void waitingDryAtBoth() {
        RoundPoint x = Shore.strait(Shore.SPIKE, 49, 10999);
        Shore.hours(x, 0, 500, 500);
        Due.is("14 waiting up to the wet minute", x.soon(400, 1, 0, 1), 510);
        Shore.hours(x, 0, 501, 501);
        Due.is("14 not into it", x.soon(500, 1, 0, 1), RoundPoint.NOT);
        Due.is("14 starting in it", x.soon(501, 1, 0, 1), 511);
        Shore.hours(x, 0, 502, 600);
        Due.is("14 not out of it", x.soon(501, 1, 0, 1), RoundPoint.NOT);
        Due.is("14 nor through it", x.soon(400, 1, 0, 1), RoundPoint.NOT);
        Due.is("14 starting behind it", x.soon(502, 1, 0, 1), 512);
        x.safe(0, 50);
        Due.is("14 dry at just SAFE", x.soon(400, 1, 0, 1), 512);
    }

    /** One may stand where it is not DRY at the MINUTE at which one comes, if one goes on at once. */
    private static void wetWhereOneComes() {
        RoundPoint x = Shore.of("0:50", 999, 49, 999);
        x.way(1, 10050);
        x.way(102, 10050);
        Shore.hours(x, 0, 30, 30);
        Due.is("14 the goal may be wet", x.soon(0, 1, 0, 1), 40);
        // eleven minutes for the second, one is weary by then
        Shore.hours(x, 1, 40, 40);
        Due.is("14 going on at once", x.soon(0, 2, 0, 1), 51);
        Shore.hours(x, 1, 41, 41);
        Due.is("14 not waiting there", x.soon(0, 2, 0, 1), RoundPoint.NOT);
        Shore.hours(x, 1, 39, 39);
        Due.is("14 not ahead of it either", x.soon(0, 2, 0, 1), RoundPoint.NOT);
        x.safe(1, 50);
        Shore.hours(x, 1, 41, 41);
        Due.is("14 waiting where it is dry", x.soon(0, 2, 0, 1), 52);
    }

    private static void wetWhereOneStarts() {
        RoundPoint x = Shore.strait("0:50", 49, 10050);
        Due.is("14 starting wet, going at once", x.soon(60, 1, 0, 1), 70);
        Shore.hours(x, 0, 61, 1439);
        Due.is("14 not waiting", x.soon(60, 1, 0, 1), RoundPoint.NOT);
    }

    private static void wearyThreeAtMost() {
        RoundPoint x = Shore.of("0:0", 9, 9, 9, 9, 9, 9, 9);
        for (int place = 0; place < 6; place++) {
            x.way(101 * place + 1, 50000);
        }
        int[] due = {0, 50, 105, 165, 230, 295, 360};
        for (int place = 0; place < 7; place++) {
            Due.is("14 weary by " + place, x.soon(0, place, 0, 1), due[place]);
        }
    }

    /** Waiting does not make weary, nor does it rest. */
    private static void wearyAtFirstNot() {
        RoundPoint x = Shore.of("0:0", 9, 9, 9);
        x.way(1, 50000);
        x.way(102, 50000);
        Shore.hours(x, 0, 500, 500);
        Due.is("14 not weary by waiting", x.soon(0, 1, 0, 1), 550);
        Shore.hours(x, 1, 900, 900);
        Due.is("14 still weary behind waiting", x.soon(0, 2, 0, 1), 955);
        // two ways to one place: later there, but less weary, may be sooner at the goal
        RoundPoint y = Shore.of("0:0", 9, 9, 9, 9);
        y.way(1, 1000);
        y.way(102, 1000);
        y.way(2, 5000);
        y.way(203, 90000);
        Due.is("14 less weary is sooner", y.soon(0, 3, 0, 1), 104);
        Due.is("14 though it comes later there", y.soon(0, 2, 0, 1), 3);
    }

    private static void inEachWind() {
        RoundPoint x = Shore.strait(Shore.TENT, 999, 30100);
        x.wind(20, 0, 1);
        x.wind(0, 10, 1);
        Due.is("14 still", x.soon(70, 1, 0, 1), 100);
        Due.is("14 lifted", x.soon(50, 1, 0, 2), 80);
        Due.is("14 lifted, later", x.soon(51, 1, 0, 2), 1150);
        Due.is("14 early", x.soon(60, 1, 0, 4), 90);
        Due.is("14 early, later", x.soon(61, 1, 0, 4), 1120);
        Due.is("14 all", x.soon(50, 1, 0, 7), 80);
        Due.is("14 all, later", x.soon(51, 1, 0, 7), 1150);
        Due.is("14 two", x.soon(60, 1, 0, 5), 90);
        Due.is("14 two, later: both must go", x.soon(61, 1, 0, 5), 1130);
        x.safe(0, 80);
        Due.is("14 dry in each wind", x.soon(20, 1, 0, 1), 50);
        Shore.hours(x, 0, 60, 60);
        Due.is("14 waiting in two", x.soon(50, 1, 0, 5), 90);
        x.safe(0, 69);
        Due.is("14 wet in one of two", x.soon(50, 1, 0, 5), RoundPoint.NOT);
        Due.is("14 dry in the one", x.soon(50, 1, 0, 1), 90);
    }

    /** st: 10 times the SORT, and the TIDE. */
    private static void byTideAndSort() {
        RoundPoint x = Shore.ten(0);
        for (int st = 0; st < 40; st++) {
            Due.is("14 st " + st, x.soon(100, 1, st, 1), st % 10 <= 5 ? 100 + Shore.TEN[st / 10] : RoundPoint.NOT);
        }
    }

    private static void firstAndLastMinute() {
        RoundPoint x = Shore.strait(Shore.FIRST_HIGH, 49, 10049);
        Due.is("14 wet and high at the first minute", x.soon(0, 1, 0, 1), RoundPoint.NOT);
        Due.is("14 not at the second", x.soon(1, 1, 0, 1), 11);
        x.safe(0, 50);
        Due.is("14 high, not wet, at the first minute", x.soon(0, 1, 0, 1), 11);
        x.alter(0, 0, 50);
        Due.is("14 neither", x.soon(0, 1, 0, 1), 10);
        RoundPoint y = Shore.strait(Shore.LAST_HIGH, 49, 10049);
        Due.is("14 high at the last minute", y.soon(1429, 1, 0, 1), RoundPoint.NOT);
        Due.is("14 not at the one ahead", y.soon(1428, 1, 0, 1), 1438);
        y.alter(0, 0, 50);
        Due.is("14 not too high", y.soon(1429, 1, 0, 1), 1439);
    }

    private static void betweenPartsWithoutAWay() {
        RoundPoint x = Shore.of("0:0", 0, 0, 0, 0, 0);
        x.way(1, 1000);
        x.way(304, 2000);
        x.way(102, 3000);
        int[] part = {0, 0, 0, 1, 1};
        for (int from = 0; from < 5; from++) {
            for (int to = 0; to < 5; to++) {
                boolean is = x.soon(10000 * from, to, 0, 1) != RoundPoint.NOT;
                Due.is("14 from " + from + " to " + to, is ? 1 : 0, part[from] == part[to] ? 1 : 0);
            }
        }
    }

    private static void lightIsNothing() {
        RoundPoint x = Shore.strait("0:0", 0, 10000);
        x.light(0, 300);
        x.light(1, 400);
        Due.is("14 ahead of dawn", x.soon(0, 1, 0, 1), 10);
        Due.is("14 behind dark", x.soon(1000, 1, 0, 1), 1010);
    }

    private static void refused() {
        RoundPoint full = Shore.full();
        Due.is("14 the last of all", full.soon(110000, 11, 39, 31), 0);
        Refused.some("14 wrong", RoundPoint.BAD, x -> x.soon(-1, 1, 0, 1), x -> x.soon(1440, 1, 0, 1),
            x -> x.soon(9999, 1, 0, 1), x -> x.soon(40000, 1, 0, 1), x -> x.soon(0, -1, 0, 1), x -> x.soon(0, 4, 0, 1),
            x -> x.soon(0, 1, -1, 1), x -> x.soon(0, 1, 2, 1), x -> x.soon(0, 1, 40, 1), x -> x.soon(0, 1, 0, 0),
            x -> x.soon(0, 1, 0, 8), x -> x.soon(0, 1, 0, -1), x -> x.soon(Integer.MAX_VALUE, 1, 0, 1),
            x -> x.soon(Integer.MIN_VALUE, 1, 0, 1), x -> x.soon(0, Integer.MAX_VALUE, 0, 1),
            x -> x.soon(0, Integer.MIN_VALUE, 0, 1), x -> x.soon(0, 1, Integer.MAX_VALUE, 1),
            x -> x.soon(0, 1, Integer.MIN_VALUE, 1), x -> x.soon(0, 1, 0, Integer.MAX_VALUE),
            x -> x.soon(0, 1, 0, Integer.MIN_VALUE));
        Refused.some("14 never", RoundPoint.NOT, x -> x.soon(11439, 0, 0, 1), x -> x.soon(1439, 3, 0, 7));
        Refused.full("14 wrong, full", RoundPoint.BAD, x -> x.soon(120000, 0, 0, 1), x -> x.soon(0, 12, 0, 1),
            x -> x.soon(0, 1, 40, 1), x -> x.soon(0, 1, 0, 32));
    }
}
