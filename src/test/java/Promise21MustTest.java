/** Promise 21: must: MUST from fm to a PLACE, in all WINDS, as bits. BAD; NOT: it is not REACHED by dark. */
public final class Promise21MustTest {
    private Promise21MustTest() {
    }

    public static void main(String[] args) {
        noWaitingAtAll();
        atTheStart();
        onTheWay();
        atSeveral();
        atEitherIsNone();
        aMinutesWaiting();
        byDark();
        inAllWinds();
        byTideAndSort();
        lastPlaceOfAll();
        refused();
        Due.end();
    }

    /** Places 0, 1, 2 in a row, ten minutes and eleven between them. */
    private static RoundPoint row() {
        RoundPoint x = Shore.of("0:0", 9, 9, 9);
        x.way(1, 10000);
        x.way(102, 10000);
        return x;
    }

    private static void noWaitingAtAll() {
        RoundPoint x = row();
        Due.is("21 straight on", x.must(0, 2, 0), 0);
        Due.is("21 here already", x.must(5, 0, 0), 0);
        Due.is("21 here already, at the last minute", x.must(1439, 0, 0), 0);
    }

    private static void atTheStart() {
        RoundPoint x = row();
        Shore.hours(x, 0, 60, 60);
        Due.is("21 at the start", x.must(0, 2, 0), 1);
        Due.is("21 at the start, to the next", x.must(0, 1, 0), 1);
        Due.is("21 not from then on", x.must(60, 2, 0), 0);
    }

    private static void onTheWay() {
        RoundPoint x = row();
        Shore.hours(x, 0, 0, 0);
        Shore.hours(x, 1, 60, 70);
        Due.is("21 on the way", x.must(0, 2, 0), 2);
        Due.is("21 not to be there", x.must(0, 1, 0), 0);
        Shore.hours(x, 1, 10, 70);
        Due.is("21 going on at once", x.must(0, 2, 0), 0);
        Shore.hours(x, 1, 11, 70);
        Due.is("21 waiting a minute", x.must(0, 2, 0), 2);
    }

    private static void atSeveral() {
        RoundPoint x = Shore.of("0:0", 9, 9, 9, 9);
        for (int way = 0; way < 3; way++) {
            x.way(101 * way + 1, 10000);
            Shore.hours(x, way, 100 * (way + 1), 100 * (way + 1));
        }
        Due.is("21 at all three, not at the goal", x.must(0, 3, 0), 7);
        Due.is("21 at two", x.must(0, 2, 0), 3);
        Due.is("21 at the last two", x.must(100, 3, 0), 6);
        Due.is("21 at the second two", x.must(10150, 3, 0), 6);
    }

    private static void atEitherIsNone() {
        RoundPoint x = row();
        Shore.hours(x, 1, 100, 100);
        Due.is("21 here or there", x.must(0, 2, 0), 0);
        x.safe(1, 0);
        x.wind(5, 0, 1);
        x.alter(0, 0, 5);
        x.alter(1, 0, 5);
        Due.is("21 here alone, for it is wet there", x.must(0, 2, 0), 1);
    }

    private static void aMinutesWaiting() {
        RoundPoint x = row();
        Shore.hours(x, 0, 1, 1);
        Due.is("21 one minute at the start", x.must(0, 1, 0), 1);
        Shore.hours(x, 0, 0, 1);
        Shore.hours(x, 1, 11, 11);
        Due.is("21 a minute here or there", x.must(0, 2, 0), 0);
        Shore.hours(x, 0, 0, 0);
        Due.is("21 a minute there", x.must(0, 2, 0), 2);
    }

    /** Dark, not the end of the day. */
    private static void byDark() {
        RoundPoint x = row();
        x.light(1, 21);
        Due.is("21 just by dark", x.must(0, 2, 0), 0);
        x.light(1, 20);
        Due.is("21 not by dark", x.must(0, 2, 0), RoundPoint.NOT);
        Due.is("21 here, at dark", x.must(20, 0, 0), 0);
        Due.is("21 here, behind dark", x.must(21, 0, 0), RoundPoint.NOT);
        // two ways: the sooner one must be waited for, the other one is too late by dark
        RoundPoint y = Shore.strait("0:0", 9, 10000);
        y.way(1, 30000);
        Shore.hours(y, 0, 15, 15);
        y.light(1, 30);
        Due.is("21 the other way just by dark", y.must(0, 1, 0), 0);
        y.light(1, 29);
        Due.is("21 the other way not by dark", y.must(0, 1, 0), 1);
        y.light(1, 25);
        Due.is("21 waiting just till dark", y.must(0, 1, 0), 1);
        y.light(1, 24);
        Due.is("21 neither by dark", y.must(0, 1, 0), RoundPoint.NOT);
        y.light(1, 29);
        y.light(0, 29);
        Due.is("21 dawn is nothing to it", y.must(0, 1, 0), 1);
    }

    private static void inAllWinds() {
        RoundPoint x = Shore.of("0:50", 99, 99, 99);
        x.way(1, 10051);
        x.way(1, 10050);
        Shore.hours(x, 0, 60, 60);
        Due.is("21 still none", x.must(0, 1, 0), 0);
        x.wind(1, 0, 1);
        Due.is("21 in the wind by the other way", x.must(0, 1, 0), 1);
        x.wind(2, 0, 1);
        Due.is("21 in the third wind not", x.must(0, 1, 0), RoundPoint.NOT);
        Due.is("21 no way there", x.must(0, 2, 0), RoundPoint.NOT);
    }

    /** st: 10 times the SORT, and the TIDE. */
    private static void byTideAndSort() {
        RoundPoint x = Shore.ten(999);
        Shore.hours(x, 0, 110, 1439);
        x.light(1, 125);
        for (int st = 0; st < 40; st++) {
            Due.is("21 st " + st, x.must(100, 1, st), st % 10 <= 5 && st / 10 < 3 ? 1 : RoundPoint.NOT);
        }
    }

    private static void lastPlaceOfAll() {
        RoundPoint x = Shore.of("0:0", 0, 0, 0, 0, 0, 0, 0, 0, 0, 0, 0, 0);
        x.way(1011, 10000);
        x.way(900 + 11, 10000);
        Shore.hours(x, 0, 60, 60);
        Due.is("21 at place 9 or place 11", x.must(110000, 10, 0), 0);
        Shore.hours(x, 1, 0, 0);
        Due.is("21 at place 11", x.must(110000, 10, 0), 1 << 11);
        Due.is("21 at place 11 on the way", x.must(90000, 10, 0), 1 << 11);
        x.sort(3, 400);
        Due.is("21 by a slow sort", x.must(90000, 10, 30), 1 << 11);
        Shore.hours(x, 0, 39, 39);
        Due.is("21 by a slow sort not", x.must(90000, 10, 30), RoundPoint.NOT);
        Shore.hours(x, 0, 40, 40);
        Due.is("21 by a slow sort at once", x.must(90000, 10, 30), 0);
    }

    private static void refused() {
        Refused.some("21 wrong", RoundPoint.BAD, x -> x.must(-1, 1, 0), x -> x.must(1440, 1, 0), x -> x.must(40000, 1, 0),
            x -> x.must(0, -1, 0), x -> x.must(0, 4, 0), x -> x.must(0, 1, -1), x -> x.must(0, 1, 2), x -> x.must(0, 1, 40),
            x -> x.must(Integer.MAX_VALUE, 1, 0), x -> x.must(Integer.MIN_VALUE, 1, 0), x -> x.must(0, Integer.MAX_VALUE, 0),
            x -> x.must(0, Integer.MIN_VALUE, 0), x -> x.must(0, 1, Integer.MAX_VALUE), x -> x.must(0, 1, Integer.MIN_VALUE));
        Refused.some("21 not", RoundPoint.NOT, x -> x.must(11439, 0, 0), x -> x.must(1301, 0, 0));
        Refused.some("21 asked changes nothing", 0, x -> x.must(1300, 0, 0), x -> x.must(0, 0, 0));
        Refused.full("21 wrong, full", RoundPoint.BAD, x -> x.must(120000, 1, 0), x -> x.must(0, 12, 0), x -> x.must(0, 1, 40));
    }
}
