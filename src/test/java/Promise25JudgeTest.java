/** Promise 25: judge: JUDGED from fm in a WIND: the move (what 0; NOT), the MINUTE (1; of NOT that of its END), END's PLACE (2). BAD. */
public final class Promise25JudgeTest {
    private Promise25JudgeTest() {
    }

    public static void main(String[] args) {
        noMoves();
        hoursAreBothIn();
        heightAtAllMinutes();
        withinTheDay();
        wayThatDoesNotLeadOn();
        waitsDryAtAll();
        waitsWithinTheDay();
        goingOnAtOnce();
        wearyThreeAtMost();
        firstOfTwelve();
        byTideAndSort();
        firstAndLastMinute();
        inTheWind();
        refused();
        Due.end();
    }

    private static void judge(RoundPoint x, int fm, int move, int minute, int place) {
        Due.is("25 move from " + fm, x.judge(fm, 0, 0, 0), move);
        Due.is("25 minute from " + fm, x.judge(fm, 0, 0, 1), minute);
        Due.is("25 place from " + fm, x.judge(fm, 0, 0, 2), place);
    }

    private static void goes(RoundPoint x, int fm, int minute, int place) {
        judge(x, fm, RoundPoint.NOT, minute, place);
    }

    private static void noMoves() {
        RoundPoint x = Shore.strait("0:50", 0, 10000);
        goes(x, 0, 0, 0);
        goes(x, 11439, 1439, 1);
    }

    private static void hoursAreBothIn() {
        RoundPoint x = Shore.strait("0:0", 0, 10000);
        Shore.plan(x, 0);
        Shore.hours(x, 0, 60, 100);
        judge(x, 59, 0, 59, 0);
        goes(x, 60, 70, 1);
        goes(x, 10100, 110, 0);
        judge(x, 10101, 0, 101, 1);
    }

    /** High at 501 alone. */
    private static void heightAtAllMinutes() {
        RoundPoint x = Shore.strait(Shore.SPIKE, 0, 10049);
        Shore.plan(x, 0);
        goes(x, 490, 500, 1);
        judge(x, 491, 0, 491, 0);
        judge(x, 496, 0, 496, 0);
        judge(x, 501, 0, 501, 0);
        goes(x, 502, 512, 1);
        x.alter(0, 0, 50);
        goes(x, 491, 501, 1);
        goes(x, 501, 511, 1);
    }

    private static void withinTheDay() {
        RoundPoint x = Shore.strait("0:0", 0, 10000);
        Shore.plan(x, 0);
        goes(x, 1429, 1439, 1);
        judge(x, 1430, 0, 1430, 0);
        judge(x, 1439, 0, 1439, 0);
        x.light(0, 600);
        x.light(1, 700);
        goes(x, 10, 20, 1);
        goes(x, 800, 810, 1);
    }

    private static void wayThatDoesNotLeadOn() {
        RoundPoint x = Shore.of("0:0", 0, 0, 0);
        x.way(1, 10000);
        x.way(102, 10000);
        Shore.plan(x, 1);
        judge(x, 5, 0, 5, 0);
        goes(x, 10005, 15, 2);
        goes(x, 20005, 15, 1);
        Shore.plan(x, 0, 0, 1);
        judge(x, 5, 2, 26, 0);
        Shore.plan(x, 1, 0);
        goes(x, 20005, 26, 0);
        judge(x, 10005, 1, 15, 2);
    }

    /** Wet at 501 alone. */
    private static void waitsDryAtAll() {
        RoundPoint x = Shore.of(Shore.SPIKE, 49);
        Shore.plan(x, 101);
        goes(x, 499, 500, 0);
        judge(x, 500, 0, 500, 0);
        judge(x, 501, 0, 501, 0);
        goes(x, 502, 503, 0);
        Shore.plan(x, 110);
        goes(x, 490, 500, 0);
        judge(x, 491, 0, 491, 0);
        judge(x, 495, 0, 495, 0);
        x.safe(0, 50);
        goes(x, 495, 505, 0);
        goes(x, 501, 511, 0);
        Shore.plan(x, 340);
        goes(x, 261, 501, 0);
        x.safe(0, 49);
        judge(x, 261, 0, 261, 0);
        goes(x, 260, 500, 0);
    }

    private static void waitsWithinTheDay() {
        RoundPoint x = Shore.of("0:0", 0);
        Shore.plan(x, 101);
        goes(x, 1438, 1439, 0);
        judge(x, 1439, 0, 1439, 0);
        Shore.plan(x, 340);
        goes(x, 1199, 1439, 0);
        judge(x, 1200, 0, 1200, 0);
    }

    /** One may stand where it is not DRY at the MINUTE at which one comes, if one goes on at once. */
    private static void goingOnAtOnce() {
        RoundPoint x = Shore.of("0:50", 0, 0, 0);
        x.way(1, 10050);
        x.way(102, 10050);
        Shore.plan(x, 0, 1);
        goes(x, 5, 26, 2);
        Shore.plan(x, 0, 101, 1);
        judge(x, 5, 1, 15, 1);
        Shore.plan(x, 101);
        judge(x, 20005, 0, 5, 2);
    }

    private static void wearyThreeAtMost() {
        RoundPoint x = Shore.strait("0:0", 0, 50000);
        int[] due = {50, 105, 165, 230, 295, 360};
        x.drop();
        for (int ways = 1; ways <= 6; ways++) {
            x.move(0);
            goes(x, 0, due[ways - 1], ways % 2);
        }
        Shore.plan(x, 110, 0, 110, 0);
        goes(x, 0, 10 + 50 + 10 + 55, 0);
    }

    private static void firstOfTwelve() {
        RoundPoint x = Shore.of("0:0", 0, 0, 0);
        x.way(1, 10000);
        x.way(1, 10000);
        Shore.plan(x, 101, 101, 101, 101, 101, 101, 101, 101, 101, 101, 101, 0);
        goes(x, 0, 21, 1);
        Shore.hours(x, 0, 12, 20);
        judge(x, 0, 11, 11, 0);
        goes(x, 1, 22, 1);
        goes(x, 9, 30, 1);
        judge(x, 10, 11, 21, 0);
        // the first of several that do not go
        Shore.plan(x, 101, 0, 101, 0);
        judge(x, 20, 1, 21, 0);
        judge(x, 1439, 0, 1439, 0);
    }

    /** st: 10 times the SORT, and the TIDE. */
    private static void byTideAndSort() {
        RoundPoint x = Shore.ten(0);
        Shore.plan(x, 0);
        for (int st = 0; st < 40; st++) {
            boolean goes = st % 10 <= 5;
            Due.is("25 st " + st, x.judge(100, st, 0, 0), goes ? RoundPoint.NOT : 0);
            Due.is("25 st " + st + ", the minute", x.judge(100, st, 0, 1), goes ? 100 + Shore.TEN[st / 10] : 100);
            Due.is("25 st " + st + ", the place", x.judge(100, st, 0, 2), goes ? 1 : 0);
        }
    }

    private static void firstAndLastMinute() {
        RoundPoint x = Shore.strait(Shore.FIRST_HIGH, 49, 10049);
        Shore.plan(x, 0);
        judge(x, 0, 0, 0, 0);
        goes(x, 1, 11, 1);
        Shore.plan(x, 101);
        judge(x, 0, 0, 0, 0);
        goes(x, 1, 2, 0);
        RoundPoint y = Shore.strait(Shore.LAST_HIGH, 49, 10049);
        Shore.plan(y, 0);
        goes(y, 1428, 1438, 1);
        judge(y, 1429, 0, 1429, 0);
        Shore.plan(y, 101);
        goes(y, 1437, 1438, 0);
        judge(y, 1438, 0, 1438, 0);
        y.safe(0, 50);
        goes(y, 1438, 1439, 0);
    }

    private static void inTheWind() {
        RoundPoint x = Shore.strait("0:50", 50, 10050);
        x.wind(1, 0, 1);
        x.wind(-1, 0, 1);
        Shore.plan(x, 0, 101);
        Due.is("25 in wind 0", x.judge(0, 0, 0, 0), RoundPoint.NOT);
        Due.is("25 in wind 1", x.judge(0, 0, 1, 0), 0);
        Due.is("25 in wind 2", x.judge(0, 0, 2, 0), RoundPoint.NOT);
        x.alter(0, 0, 51);
        Due.is("25 in wind 1 the wait", x.judge(0, 0, 1, 0), 1);
        Due.is("25 in wind 1 its minute", x.judge(0, 0, 1, 1), 10);
        Due.is("25 in wind 1 its place", x.judge(0, 0, 1, 2), 1);
        Due.is("25 by a slow sort", x.judge(0, 30, 0, 1), 31);
    }

    private static void refused() {
        RoundPoint full = Shore.full();
        Due.is("25 the last of all", full.judge(111439, 39, 4, 2), 11);
        Refused.some("25 wrong", RoundPoint.BAD, x -> x.judge(-1, 0, 0, 0), x -> x.judge(1440, 0, 0, 0),
            x -> x.judge(40000, 0, 0, 0), x -> x.judge(0, -1, 0, 0), x -> x.judge(0, 2, 0, 0), x -> x.judge(0, 40, 0, 0),
            x -> x.judge(0, 0, -1, 0), x -> x.judge(0, 0, 3, 0), x -> x.judge(0, 0, 0, -1), x -> x.judge(0, 0, 0, 3),
            x -> x.judge(Integer.MAX_VALUE, 0, 0, 0), x -> x.judge(Integer.MIN_VALUE, 0, 0, 0),
            x -> x.judge(0, Integer.MAX_VALUE, 0, 0), x -> x.judge(0, Integer.MIN_VALUE, 0, 0),
            x -> x.judge(0, 0, Integer.MAX_VALUE, 0), x -> x.judge(0, 0, Integer.MIN_VALUE, 0),
            x -> x.judge(0, 0, 0, Integer.MAX_VALUE), x -> x.judge(0, 0, 0, Integer.MIN_VALUE));
        Refused.full("25 wrong, full", RoundPoint.BAD, x -> x.judge(120000, 0, 0, 0), x -> x.judge(0, 40, 0, 0),
            x -> x.judge(0, 0, 5, 0));
    }
}
