/** Promise 20: higher: WORTH of HEIGHT of a WAY from fm to a PLACE, in all WINDS. BAD; NOT. */
public final class Promise20HigherTest {
    private Promise20HigherTest() {
    }

    public static void main(String[] args) {
        oneToTwoHundred();
        leastThatIsSooner();
        notSooner();
        aboveTheGreatestHeight();
        hoursStay();
        inAllWinds();
        byTideAndSort();
        allStays();
        refused();
        Due.end();
    }

    private static RoundPoint under(int height, int lack) {
        return Shore.strait("0:" + (height + lack), 999, 10000 + height);
    }

    private static void oneToTwoHundred() {
        Due.is("20 none is lacking", under(100, 0).higher(0, 0, 1, 0), RoundPoint.NOT);
        for (int lack = 1; lack <= 200; lack++) {
            Due.is("20 lacking " + lack, under(100, lack).higher(0, 0, 1, 0), lack);
        }
        Due.is("20 lacking 201", under(100, 201).higher(0, 0, 1, 0), RoundPoint.NOT);
        Due.is("20 lacking far more", under(0, 999).higher(0, 0, 1, 0), RoundPoint.NOT);
        Due.is("20 from nought", under(0, 200).higher(0, 0, 1, 0), 200);
    }

    /** Two heights stand in the way: a little sooner at the one, much sooner only at the other. */
    private static void leastThatIsSooner() {
        RoundPoint x = Shore.strait("0:110;300:110;301:105;302:0", 999, 10100);
        Due.is("20 a minute sooner is sooner", x.higher(0, 0, 1, 0), 5);
        Due.is("20 where only the more is sooner", x.higher(0, 301, 1, 0), 5);
        RoundPoint y = Shore.strait("0:110;300:110;301:0", 999, 10100);
        Due.is("20 sooner at once", y.higher(0, 0, 1, 0), 10);
        Due.is("20 at the last of them", y.higher(0, 300, 1, 0), 10);
        Due.is("20 behind them", y.higher(0, 301, 1, 0), RoundPoint.NOT);
    }

    private static void notSooner() {
        RoundPoint x = Shore.of("0:100", 999, 999, 999);
        x.way(1, 10100);
        x.way(1, 9000);
        x.way(1, 10000);
        x.way(2, 5000);
        Due.is("20 the shorter way", x.higher(1, 0, 1, 0), 100);
        Due.is("20 just as soon is not sooner", x.higher(2, 0, 1, 0), RoundPoint.NOT);
        Due.is("20 open already", x.higher(0, 0, 1, 0), RoundPoint.NOT);
        Due.is("20 leads elsewhere", x.higher(3, 0, 1, 0), RoundPoint.NOT);
        Due.is("20 here already", x.higher(0, 50, 0, 0), RoundPoint.NOT);
        Due.is("20 no time is left", x.higher(1, 1431, 1, 0), RoundPoint.NOT);
        Due.is("20 just time is left", x.higher(1, 1430, 1, 0), 100);
        x.light(1, 5);
        Due.is("20 dark is nothing to it", x.higher(1, 0, 1, 0), 100);
    }

    /** A HEIGHT told goes to 999; so much more may be above that. */
    private static void aboveTheGreatestHeight() {
        RoundPoint x = Shore.strait("0:999", 999, 10999);
        x.wind(99, 0, 1);
        Due.is("20 above 999", x.higher(0, 0, 1, 0), 99);
        x.alter(0, 0, 998);
        Due.is("20 from 998", x.higher(0, 0, 1, 0), 100);
    }

    private static void hoursStay() {
        RoundPoint x = Shore.strait(Shore.SPIKE, 999, 10000);
        Shore.hours(x, 0, 495, 600);
        Due.is("20 at its hour", x.higher(0, 0, 1, 0), 50);
        Due.is("20 high when one would begin", x.higher(0, 501, 1, 0), 50);
        Due.is("20 behind", x.higher(0, 502, 1, 0), RoundPoint.NOT);
        Shore.hours(x, 0, 503, 600);
        Due.is("20 its hour is behind it", x.higher(0, 0, 1, 0), RoundPoint.NOT);
        Shore.hours(x, 0, 0, 490);
        Due.is("20 its last hour is past", x.higher(0, 495, 1, 0), RoundPoint.NOT);
        Shore.hours(x, 0, 0, 491);
        Due.is("20 at its last hour", x.higher(0, 491, 1, 0), 50);
    }

    private static void inAllWinds() {
        RoundPoint x = Shore.strait("0:100", 999, 10100);
        Due.is("20 still", x.higher(0, 0, 1, 0), RoundPoint.NOT);
        x.wind(7, 0, 1);
        Due.is("20 lifted", x.higher(0, 0, 1, 0), 7);
        x.wind(30, 0, 1);
        Due.is("20 lifted more", x.higher(0, 0, 1, 0), 30);
        x.safe(1, 0);
        Due.is("20 the goal may be wet", x.higher(0, 0, 1, 0), 30);
        // by a slow sort the height at 501 stands in the way longer
        RoundPoint y = Shore.strait(Shore.SPIKE, 999, 10000);
        Due.is("20 there ahead of it", y.higher(0, 490, 1, 0), RoundPoint.NOT);
        Due.is("20 by a slow sort", y.higher(0, 490, 1, 30), 50);
    }

    /** st: 10 times the SORT, and the TIDE. */
    private static void byTideAndSort() {
        RoundPoint x = Shore.ten(0);
        for (int st = 0; st < 40; st++) {
            boolean helps = st % 10 > 5 && st / 10 < 3;
            Due.is("20 st " + st, x.higher(0, 1424, 1, st), helps ? 10 * (st % 10 - 5) : RoundPoint.NOT);
        }
    }

    /** Asked, the WAY has its HEIGHT as before. */
    private static void allStays() {
        Refused.some("20 asked changes nothing", RoundPoint.NOT, x -> x.higher(0, 10, 0, 0), x -> x.higher(2, 10, 1, 0));
        RoundPoint x = under(100, 50);
        x.higher(0, 0, 1, 0);
        Due.is("20 no change", x.count(7), 0);
        Due.is("20 the height stays", x.alter(0, 0, 100), 100);
        Due.is("20 asked twice", x.higher(0, 0, 1, 0), 50);
        x.alter(0, 0, 149);
        Due.is("20 just below", x.higher(0, 0, 1, 0), 1);
        x.alter(0, 0, 150);
        Due.is("20 just so", x.soon(0, 1, 0, 1), 10);
    }

    private static void refused() {
        Refused.some("20 wrong", RoundPoint.BAD, x -> x.higher(-1, 0, 1, 0), x -> x.higher(4, 0, 1, 0),
            x -> x.higher(0, -1, 1, 0), x -> x.higher(0, 1440, 1, 0), x -> x.higher(0, 40000, 1, 0),
            x -> x.higher(0, 0, -1, 0), x -> x.higher(0, 0, 4, 0), x -> x.higher(0, 0, 1, -1), x -> x.higher(0, 0, 1, 2),
            x -> x.higher(0, 0, 1, 40), x -> x.higher(Integer.MAX_VALUE, 0, 1, 0), x -> x.higher(Integer.MIN_VALUE, 0, 1, 0),
            x -> x.higher(0, Integer.MAX_VALUE, 1, 0), x -> x.higher(0, Integer.MIN_VALUE, 1, 0),
            x -> x.higher(0, 0, Integer.MAX_VALUE, 0), x -> x.higher(0, 0, 1, Integer.MAX_VALUE));
        Refused.full("20 wrong, full", RoundPoint.BAD, x -> x.higher(24, 0, 1, 0), x -> x.higher(0, 120000, 1, 0),
            x -> x.higher(0, 0, 12, 0), x -> x.higher(0, 0, 1, 40));
    }
}
