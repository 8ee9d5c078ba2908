/** Promise 15: last: LAST from a PLACE to another one (ft). BAD; NOT. */
public final class Promise15LastTest {
    private Promise15LastTest() {
    }

    public static void main(String[] args) {
        byDark();
        notBeforeDawn();
        hoursAreBothIn();
        heightAtAllMinutes();
        dryOrNot();
        waitingDryAtBoth();
        wetWhereOneComes();
        wearyThreeAtMost();
        wearyAtFirstNot();
        inEachWind();
        byTideAndSort();
        firstAndLastMinute();
        betweenPartsWithoutAWay();
        refused();
        Due.end();
    }

    private static void byDark() {
        RoundPoint x = Shore.strait("0:0", 0, 10000);
        Due.is("15 the end of the day", x.last(1, 0, 1), 1429);
        x.light(1, 1000);
        Due.is("15 just at dark", x.last(1, 0, 1), 990);
        x.light(1, 10);
        Due.is("15 from the first minute", x.last(1, 0, 1), 0);
        x.light(1, 9);
        Due.is("15 not by dark", x.last(1, 0, 1), RoundPoint.NOT);
        x.light(1, 0);
        Due.is("15 dark all day", x.last(1, 0, 1), RoundPoint.NOT);
    }

    private static void notBeforeDawn() {
        RoundPoint x = Shore.strait("0:0", 0, 10000);
        Shore.hours(x, 0, 0, 500);
        x.light(0, 500);
        Due.is("15 just at dawn", x.last(1, 0, 1), 500);
        x.light(0, 501);
        Due.is("15 before dawn", x.last(1, 0, 1), RoundPoint.NOT);
        x.light(0, 499);
        Due.is("15 behind dawn", x.last(1, 0, 1), 500);
        x.light(0, 1439);
        Due.is("15 no day", x.last(1, 0, 1), RoundPoint.NOT);
        Shore.hours(x, 0, 0, 0);
        x.light(0, 0);
        Due.is("15 at the first minute", x.last(1, 0, 1), 0);
    }

    private static void hoursAreBothIn() {
        RoundPoint x = Shore.strait("0:0", 0, 10000);
        Shore.hours(x, 0, 60, 100);
        Due.is("15 at the last hour", x.last(1, 0, 1), 100);
        Shore.hours(x, 0, 60, 60);
        Due.is("15 the one minute", x.last(1, 0, 1), 60);
        x.light(1, 70);
        Due.is("15 the one minute by dark", x.last(1, 0, 1), 60);
        x.light(1, 69);
        Due.is("15 dark ahead of it", x.last(1, 0, 1), RoundPoint.NOT);
        Shore.hours(x, 0, 58, 100);
        Due.is("15 at the first hour or a minute behind", x.last(1, 0, 1), 59);
        Shore.hours(x, 0, 59, 100);
        Due.is("15 just at the first hour", x.last(1, 0, 1), 59);
        Shore.hours(x, 0, 60, 100);
        Due.is("15 the first hour too late", x.last(1, 0, 1), RoundPoint.NOT);
    }

    /** High at 501 alone. */
    private static void heightAtAllMinutes() {
        RoundPoint x = Shore.strait(Shore.SPIKE, 999, 10049);
        x.light(1, 512);
        Due.is("15 behind the height", x.last(1, 0, 1), 502);
        x.light(1, 511);
        Due.is("15 ahead of the height", x.last(1, 0, 1), 490);
        x.light(1, 500);
        Due.is("15 ahead of it by dark", x.last(1, 0, 1), 490);
        x.light(1, 499);
        Due.is("15 ahead of it by a sooner dark", x.last(1, 0, 1), 489);
        x.light(1, 511);
        x.alter(0, 0, 50);
        Due.is("15 at just its height", x.last(1, 0, 1), 501);
        Shore.hours(x, 0, 0, 491);
        Due.is("15 at just its height when one comes", x.last(1, 0, 1), 491);
        x.alter(0, 0, 49);
        Due.is("15 too high when one comes", x.last(1, 0, 1), 490);
    }

    private static void dryOrNot() {
        RoundPoint x = Shore.strait("0:50", 49, 10050);
        Due.is("15 from a wet place to a wet one", x.last(1, 0, 1), 1429);
        Shore.hours(x, 0, 7, 60);
        Due.is("15 at the last hour from a wet place", x.last(1, 0, 1), 60);
    }

    /** Wet at 501 alone. One comes to place 1 by 490 and goes on from 502 on. */
    private static void waitingDryAtBoth() {
        RoundPoint x = Shore.of(Shore.SPIKE, 999, 49, 999);
        x.way(1, 10999);
        x.way(102, 10999);
        Shore.hours(x, 0, 0, 480);
        Shore.hours(x, 1, 500, 500);
        Due.is("15 waiting up to the wet minute", x.last(2, 0, 1), 480);
        Shore.hours(x, 1, 501, 501);
        Due.is("15 not into it", x.last(2, 0, 1), RoundPoint.NOT);
        Shore.hours(x, 0, 491, 491);
        Due.is("15 coming in it, going on at once", x.last(2, 0, 1), 491);
        Shore.hours(x, 1, 502, 502);
        Due.is("15 not out of it", x.last(2, 0, 1), RoundPoint.NOT);
        Shore.hours(x, 0, 492, 492);
        Due.is("15 coming behind it", x.last(2, 0, 1), 492);
        x.safe(1, 50);
        Shore.hours(x, 0, 0, 480);
        Due.is("15 dry at just SAFE", x.last(2, 0, 1), 480);
    }

    private static void wetWhereOneComes() {
        RoundPoint x = Shore.of("0:50", 0, 49, 0);
        x.way(1, 10050);
        x.way(102, 10050);
        Shore.hours(x, 1, 40, 45);
        Due.is("15 going on at once", x.last(2, 0, 1), 35);
        Shore.hours(x, 0, 0, 29);
        Due.is("15 there and back and there again, to come at 41", x.last(2, 0, 1), 8);
        Shore.hours(x, 0, 29, 29);
        Due.is("15 not waiting there", x.last(2, 0, 1), RoundPoint.NOT);
        x.safe(1, 50);
        Due.is("15 waiting where it is dry", x.last(2, 0, 1), 29);
    }

    private static void wearyThreeAtMost() {
        RoundPoint x = Shore.of("0:0", 9, 9, 9, 9, 9, 9, 9);
        for (int place = 0; place < 6; place++) {
            x.way(101 * place + 1, 50000);
        }
        int[] takes = {0, 50, 105, 165, 230, 295, 360};
        for (int place = 1; place < 7; place++) {
            Due.is("15 weary by " + place, x.last(place, 0, 1), 1439 - takes[place]);
        }
        x.light(1, 360);
        Due.is("15 by six ways just by dark", x.last(6, 0, 1), 0);
        x.light(1, 359);
        Due.is("15 by six ways not by dark", x.last(6, 0, 1), RoundPoint.NOT);
    }

    private static void wearyAtFirstNot() {
        RoundPoint x = Shore.of("0:0", 9, 9, 9, 9);
        x.way(1, 1000);
        x.way(102, 1000);
        x.way(2, 5000);
        x.way(203, 90000);
        Due.is("15 less weary is later", x.last(3, 0, 1), 1439 - 104);
        Due.is("15 by the shorter ways", x.last(2, 0, 1), 1439 - 3);
    }

    private static void inEachWind() {
        RoundPoint x = Shore.strait(Shore.TENT, 999, 30100);
        x.wind(20, 0, 1);
        x.wind(0, 10, 1);
        x.light(1, 1000);
        Due.is("15 still", x.last(1, 0, 1), 70);
        Due.is("15 lifted", x.last(1, 0, 2), 50);
        Due.is("15 early", x.last(1, 0, 4), 60);
        Due.is("15 still and early", x.last(1, 0, 5), 60);
        Due.is("15 all", x.last(1, 0, 7), 50);
        x.wind(99, 0, 1);
        Due.is("15 in a wind that shuts it", x.last(1, 0, 8), RoundPoint.NOT);
        Due.is("15 in all, one shuts it", x.last(1, 0, 15), RoundPoint.NOT);
    }

    /** st: 10 times the SORT, and the TIDE. */
    private static void byTideAndSort() {
        RoundPoint x = Shore.ten(0);
        for (int st = 0; st < 40; st++) {
            Due.is("15 st " + st, x.last(1, st, 1), st % 10 <= 5 ? 1439 - Shore.TEN[st / 10] : RoundPoint.NOT);
        }
    }

    private static void firstAndLastMinute() {
        RoundPoint x = Shore.strait(Shore.FIRST_HIGH, 49, 10049);
        x.light(1, 11);
        Due.is("15 at the second minute", x.last(1, 0, 1), 1);
        x.light(1, 10);
        Due.is("15 high at the first", x.last(1, 0, 1), RoundPoint.NOT);
        x.alter(0, 0, 50);
        Due.is("15 not too high", x.last(1, 0, 1), 0);
        RoundPoint y = Shore.strait(Shore.LAST_HIGH, 49, 10049);
        Due.is("15 high at the last minute", y.last(1, 0, 1), 1428);
        y.alter(0, 0, 50);
        Due.is("15 not too high at it", y.last(1, 0, 1), 1429);
    }

    /** Asked in one order and the other: nothing of an answer ahead is left. */
    private static void betweenPartsWithoutAWay() {
        RoundPoint x = Shore.of("0:0", 0, 0, 0, 0, 0);
        x.way(1, 1000);
        x.way(304, 2000);
        x.way(102, 3000);
        int[] part = {0, 0, 0, 1, 1};
        for (int i = 0; i < 50; i++) {
            int from = i < 25 ? i / 5 : (49 - i) / 5;
            int to = i < 25 ? i % 5 : (49 - i) % 5;
            int last = x.last(100 * from + to, 0, 1);
            if (from != to) {
                Due.is("15 from " + from + " to " + to, last == RoundPoint.NOT ? 0 : 1, part[from] == part[to] ? 1 : 0);
            }
        }
        Due.is("15 by two ways", x.last(2, 0, 1), 1439 - 1 - 4);
        Due.is("15 by two ways, back", x.last(200, 0, 1), 1439 - 3 - 2);
    }

    private static void refused() {
        RoundPoint full = Shore.full();
        Due.is("15 the last place of all", full.last(1110, 39, 31), 1439 - 33);
        Refused.some("15 wrong", RoundPoint.BAD, x -> x.last(0, 0, 1), x -> x.last(101, 0, 1), x -> x.last(303, 0, 1),
            x -> x.last(4, 0, 1), x -> x.last(400, 0, 1), x -> x.last(-1, 0, 1), x -> x.last(-100, 0, 1),
            x -> x.last(10001, 0, 1), x -> x.last(1, -1, 1), x -> x.last(1, 2, 1), x -> x.last(1, 40, 1),
            x -> x.last(1, 0, 0), x -> x.last(1, 0, 8), x -> x.last(1, 0, -1), x -> x.last(Integer.MAX_VALUE, 0, 1),
            x -> x.last(Integer.MIN_VALUE, 0, 1), x -> x.last(1, Integer.MAX_VALUE, 1), x -> x.last(1, Integer.MIN_VALUE, 1),
            x -> x.last(1, 0, Integer.MAX_VALUE), x -> x.last(1, 0, Integer.MIN_VALUE));
        Refused.full("15 wrong, full", RoundPoint.BAD, x -> x.last(1111, 0, 1), x -> x.last(12, 0, 1),
            x -> x.last(1200, 0, 1), x -> x.last(1, 40, 1), x -> x.last(1, 0, 32));
    }
}
