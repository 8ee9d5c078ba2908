/** Promise 18: two: TWO from fm and another one: the MINUTE (what 0), PLACE (1). BAD; NOT. */
public final class Promise18TwoTest {
    private Promise18TwoTest() {
    }

    public static void main(String[] args) {
        atOnePlaceAtOnce();
        atOnePlaceLater();
        waitingThere();
        comingThen();
        firstMinute();
        leastPlace();
        hoursAndHeights();
        withinTheDay();
        inEachWind();
        byTideAndSort();
        refused();
        Due.end();
    }

    private static void two(RoundPoint x, String what, int fm, int other, int winds, int minute, int place) {
        Due.is("18 " + what, x.two(fm, other, 0, winds, 0), minute);
        Due.is("18 " + what + ", the place", x.two(fm, other, 0, winds, 1), place);
        Due.is("18 " + what + ", the other first", x.two(other, fm, 0, winds, 0), minute);
        Due.is("18 " + what + ", the place, the other first", x.two(other, fm, 0, winds, 1), place);
    }

    private static void never(RoundPoint x, String what, int fm, int other, int winds) {
        two(x, what, fm, other, winds, RoundPoint.NOT, RoundPoint.NOT);
    }

    private static void atOnePlaceAtOnce() {
        RoundPoint x = Shore.strait("0:50", 0, 10000);
        two(x, "both here, wet", 100, 100, 1, 100, 0);
        two(x, "both there at the last minute", 11439, 11439, 1, 1439, 1);
        two(x, "both at the first minute", 0, 0, 1, 0, 0);
    }

    private static void atOnePlaceLater() {
        RoundPoint x = Shore.strait("0:50", 50, 10000);
        two(x, "one waits for the other", 100, 130, 1, 130, 0);
        two(x, "one waits a minute", 100, 101, 1, 101, 0);
        x.safe(0, 49);
        never(x, "one cannot wait", 100, 101, 1);
    }

    /** Wet at 501 alone: place 1 between 0 and 2, ten minutes to either. */
    private static RoundPoint middle(int safe) {
        RoundPoint x = Shore.of(Shore.SPIKE, 999, safe, safe);
        x.way(1, 10999);
        x.way(102, 10999);
        return x;
    }

    private static void waitingThere() {
        RoundPoint x = middle(49);
        Shore.hours(x, 0, 480, 480);
        Shore.hours(x, 1, 490, 490);
        two(x, "one waits up to the wet minute", 480, 20490, 1, 500, 1);
        Shore.hours(x, 1, 491, 491);
        never(x, "not into it", 480, 20490, 1);
        x.safe(1, 50);
        two(x, "dry at just SAFE", 480, 20490, 1, 501, 1);
    }

    private static void comingThen() {
        RoundPoint x = middle(49);
        Shore.hours(x, 0, 491, 491);
        Shore.hours(x, 1, 491, 491);
        two(x, "both coming when it is wet", 491, 20491, 1, 501, 1);
        Shore.hours(x, 1, 492, 492);
        never(x, "not waiting out of it", 491, 20492, 1);
        Shore.hours(x, 0, 492, 492);
        two(x, "both coming behind it", 492, 20492, 1, 502, 1);
    }

    private static void firstMinute() {
        RoundPoint x = middle(999);
        two(x, "in the middle", 100, 20100, 1, 110, 1);
        two(x, "where the later one is from then on", 100, 20150, 1, 150, 2);
        two(x, "where the later one comes at once", 100, 20111, 1, 121, 1);
        two(x, "a little later", 100, 20105, 1, 115, 1);
        Due.is("18 sooner there than the other starts", x.two(100, 20300, 0, 1, 0), 300);
        Due.is("18 where it starts", x.two(100, 20300, 0, 1, 1), 2);
    }

    private static void leastPlace() {
        // from 0 and 1 to each of 2, 3 and 4 in thirty minutes
        RoundPoint x = Shore.of("0:0", 9, 9, 9, 9, 9);
        for (int place = 4; place > 1; place--) {
            x.way(place, 30000);
            x.way(100 + place, 30000);
        }
        two(x, "the least of three", 0, 10000, 1, 30, 2);
        x.alter(4, 1, 1);
        two(x, "the least of two", 0, 10000, 1, 30, 3);
        x.alter(2, 1, 1);
        two(x, "the one that is left", 0, 10000, 1, 30, 4);
        x.alter(0, 1, 1);
        two(x, "a minute later the least again", 0, 10000, 1, 31, 2);
    }

    private static void hoursAndHeights() {
        RoundPoint x = Shore.strait(Shore.SPIKE, 999, 10049);
        two(x, "there ahead of the height", 490, 10490, 1, 500, 0);
        two(x, "only behind it", 491, 10491, 1, 512, 0);
        x.alter(0, 0, 50);
        two(x, "at just its height", 491, 10491, 1, 501, 0);
        Shore.hours(x, 0, 100, 200);
        two(x, "waiting for the hour", 99, 10050, 1, 110, 0);
        two(x, "at the last hour", 200, 10200, 1, 210, 0);
        never(x, "behind the last hour", 201, 10201, 1);
        two(x, "one at the last hour", 200, 10201, 1, 210, 1);
    }

    private static void withinTheDay() {
        RoundPoint x = Shore.strait("0:0", 0, 10000);
        two(x, "at the last minute", 1429, 11429, 1, 1439, 0);
        never(x, "a minute late", 1430, 11430, 1);
        two(x, "one at the last minute", 1429, 11439, 1, 1439, 1);
        x.light(0, 500);
        x.light(1, 600);
        two(x, "the light is nothing to it", 100, 10100, 1, 110, 0);
        RoundPoint y = Shore.of("0:0", 9, 9);
        never(y, "no way at all", 0, 10000, 1);
    }

    private static void inEachWind() {
        RoundPoint x = Shore.strait("0:50", 999, 10051);
        x.wind(1, 0, 1);
        x.wind(2, 0, 1);
        two(x, "in two winds", 0, 10000, 3, 10, 0);
        never(x, "not in the third", 0, 10000, 4);
        never(x, "nor in all", 0, 10000, 7);
        Due.is("18 by a slow sort", x.two(0, 10000, 30, 1, 0), 30);
    }

    /** st: 10 times the SORT, and the TIDE. */
    private static void byTideAndSort() {
        RoundPoint x = Shore.ten(0);
        x.place(0);
        x.way(102, 10050);
        for (int st = 0; st < 40; st++) {
            boolean goes = st % 10 <= 5;
            Due.is("18 st " + st, x.two(100, 20100, st, 1, 0), goes ? 100 + Shore.TEN[st / 10] : RoundPoint.NOT);
            Due.is("18 st " + st + ", the place", x.two(100, 20100, st, 1, 1), goes ? 1 : RoundPoint.NOT);
        }
    }

    private static void refused() {
        RoundPoint full = Shore.full();
        Due.is("18 the last place of all", full.two(110007, 110007, 39, 31, 1), 11);
        Refused.some("18 wrong", RoundPoint.BAD, x -> x.two(-1, 0, 0, 1, 0), x -> x.two(1440, 0, 0, 1, 0),
            x -> x.two(40000, 0, 0, 1, 0), x -> x.two(0, -1, 0, 1, 0), x -> x.two(0, 1440, 0, 1, 0),
            x -> x.two(0, 40000, 0, 1, 0), x -> x.two(0, 0, -1, 1, 0), x -> x.two(0, 0, 2, 1, 0), x -> x.two(0, 0, 40, 1, 0),
            x -> x.two(0, 0, 0, 0, 0), x -> x.two(0, 0, 0, 8, 0), x -> x.two(0, 0, 0, -1, 0), x -> x.two(0, 0, 0, 1, -1),
            x -> x.two(0, 0, 0, 1, 2), x -> x.two(Integer.MAX_VALUE, 0, 0, 1, 0), x -> x.two(Integer.MIN_VALUE, 0, 0, 1, 0),
            x -> x.two(0, Integer.MAX_VALUE, 0, 1, 0), x -> x.two(0, Integer.MIN_VALUE, 0, 1, 0),
            x -> x.two(0, 0, Integer.MAX_VALUE, 1, 0), x -> x.two(0, 0, 0, Integer.MAX_VALUE, 0),
            x -> x.two(0, 0, 0, 1, Integer.MAX_VALUE), x -> x.two(0, 0, 0, 1, Integer.MIN_VALUE));
        Refused.some("18 never", RoundPoint.NOT, x -> x.two(1439, 11439, 0, 1, 0), x -> x.two(1439, 11439, 0, 1, 1));
        Refused.full("18 wrong, full", RoundPoint.BAD, x -> x.two(120000, 0, 0, 1, 0), x -> x.two(0, 120000, 0, 1, 0),
            x -> x.two(0, 0, 40, 1, 0), x -> x.two(0, 0, 0, 32, 0));
    }
}
