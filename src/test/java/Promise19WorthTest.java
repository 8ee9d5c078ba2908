/** Promise 19: worth: WORTH of hours of a WAY from fm to a PLACE, in all WINDS. BAD. */
public final class Promise19WorthTest {
    private Promise19WorthTest() {
    }

    public static void main(String[] args) {
        firstHour();
        lastHour();
        bothHours();
        notIs1440();
        nothingToGain();
        heightStays();
        inAllWinds();
        byTideAndSort();
        allStays();
        refused();
        Due.end();
    }

    private static void firstHour() {
        RoundPoint x = Shore.strait("0:0", 0, 10000);
        Shore.hours(x, 0, 60, 1439);
        Due.is("19 an hour", x.worth(0, 0, 1, 0), 60);
        Due.is("19 a minute", x.worth(0, 59, 1, 0), 1);
        Due.is("19 at the first hour", x.worth(0, 60, 1, 0), 0);
        Shore.hours(x, 0, 1, 1439);
        Due.is("19 without hours from the minute 0 on", x.worth(0, 0, 1, 0), 1);
    }

    private static void lastHour() {
        RoundPoint x = Shore.strait("0:0", 0, 10000);
        Shore.hours(x, 0, 0, 100);
        Due.is("19 at the last hour", x.worth(0, 100, 1, 0), 0);
        Due.is("19 behind the last hour", x.worth(0, 101, 1, 0), 1440 - 111);
        Due.is("19 without hours to the end", x.worth(0, 1429, 1, 0), 1);
        Due.is("19 there is no time without hours either", x.worth(0, 1430, 1, 0), 0);
    }

    private static void bothHours() {
        RoundPoint x = Shore.strait("0:0", 0, 10000);
        Shore.hours(x, 0, 700, 700);
        Due.is("19 ahead of the one minute", x.worth(0, 0, 1, 0), 700);
        Due.is("19 at it", x.worth(0, 700, 1, 0), 0);
        Due.is("19 behind it", x.worth(0, 701, 1, 0), 1440 - 711);
    }

    /** NOT of either is 1440. */
    private static void notIs1440() {
        RoundPoint x = Shore.strait("0:50", 50, 10050);
        Shore.hours(x, 0, 0, 0);
        Due.is("19 with hours not", x.worth(0, 1, 1, 0), 1440 - 11);
        x.alter(0, 0, 49);
        Due.is("19 neither", x.worth(0, 0, 1, 0), 0);
        RoundPoint y = Shore.strait("0:50", 49, 10050);
        Shore.hours(y, 0, 7, 7);
        Due.is("19 with hours not, for it is wet", y.worth(0, 6, 1, 0), 1440 - 16);
        Due.is("19 the most that can be", y.worth(0, 0, 1, 0), 1430);
        y.sort(0, 50);
        y.way(1, 1050);
        Shore.hours(y, 1, 7, 7);
        Shore.hours(y, 0, 8, 8);
        Due.is("19 by a minute's way", y.worth(1, 0, 1, 0), 1439);
    }

    private static void nothingToGain() {
        RoundPoint x = Shore.of("0:0", 9, 9, 9);
        x.way(1, 10000);
        x.way(1, 20000);
        x.way(2, 10000);
        Shore.hours(x, 1, 100, 200);
        Due.is("19 another way is sooner", x.worth(1, 0, 1, 0), 0);
        Shore.hours(x, 0, 100, 200);
        Due.is("19 of the one", x.worth(0, 0, 1, 0), 100);
        Due.is("19 of the other", x.worth(1, 0, 1, 0), 90);
        Due.is("19 of one that does not lead there", x.worth(2, 0, 1, 0), 0);
        Due.is("19 here already", x.worth(0, 50, 0, 0), 0);
        x.light(1, 50);
        Due.is("19 dark is nothing to it", x.worth(0, 0, 1, 0), 100);
    }

    private static void heightStays() {
        RoundPoint x = Shore.strait(Shore.SPIKE, 999, 10049);
        Shore.hours(x, 0, 600, 600);
        Due.is("19 without hours ahead of the height", x.worth(0, 490, 1, 0), 110);
        Due.is("19 without hours behind the height", x.worth(0, 491, 1, 0), 610 - 512);
    }

    private static void inAllWinds() {
        RoundPoint x = Shore.strait("0:50", 999, 10051);
        x.wind(1, 0, 1);
        Shore.hours(x, 0, 60, 70);
        Due.is("19 it goes in both", x.worth(0, 0, 1, 0), 60);
        x.wind(2, 0, 1);
        Due.is("19 not in the third", x.worth(0, 0, 1, 0), 0);
        RoundPoint y = Shore.strait(Shore.TENT, 999, 10100);
        y.wind(20, 0, 1);
        Shore.hours(y, 0, 1300, 1439);
        Due.is("19 the later wind tells", y.worth(0, 500, 1, 0), 1310 - 1130);
        Due.is("19 by another sort", y.worth(0, 500, 1, 30), 200 - 20);
    }

    /** st: 10 times the SORT, and the TIDE. */
    private static void byTideAndSort() {
        RoundPoint x = Shore.ten(999);
        Shore.hours(x, 0, 1430, 1439);
        int[] due = {1440 - 1410, 1438 - 1408, 1440 - 1415, 1440 - 1430};
        for (int st = 0; st < 40; st++) {
            Due.is("19 st " + st, x.worth(0, 1400, 1, st), st % 10 <= 5 ? due[st / 10] : 0);
        }
    }

    /** Asked, the WAY has its hours as before. */
    private static void allStays() {
        Refused.some("19 asked changes nothing", 0, x -> x.worth(0, 10, 0, 0), x -> x.worth(2, 10, 1, 0));
        RoundPoint x = Shore.strait("0:0", 0, 10000);
        Shore.hours(x, 0, 60, 70);
        int changes = x.count(7);
        x.worth(0, 0, 1, 0);
        Due.is("19 no change", x.count(7), changes);
        Due.is("19 the first hour stays", x.alter(0, 1, 60), 60);
        Due.is("19 the last hour stays", x.alter(0, 2, 70), 70);
        Due.is("19 asked twice", x.worth(0, 0, 1, 0), 60);
    }

    private static void refused() {
        Refused.some("19 wrong", RoundPoint.BAD, x -> x.worth(-1, 0, 1, 0), x -> x.worth(4, 0, 1, 0),
            x -> x.worth(0, -1, 1, 0), x -> x.worth(0, 1440, 1, 0), x -> x.worth(0, 40000, 1, 0), x -> x.worth(0, 0, -1, 0),
            x -> x.worth(0, 0, 4, 0), x -> x.worth(0, 0, 1, -1), x -> x.worth(0, 0, 1, 2), x -> x.worth(0, 0, 1, 40),
            x -> x.worth(Integer.MAX_VALUE, 0, 1, 0), x -> x.worth(Integer.MIN_VALUE, 0, 1, 0),
            x -> x.worth(0, Integer.MAX_VALUE, 1, 0), x -> x.worth(0, Integer.MIN_VALUE, 1, 0),
            x -> x.worth(0, 0, Integer.MAX_VALUE, 0), x -> x.worth(0, 0, 1, Integer.MAX_VALUE));
        Refused.full("19 wrong, full", RoundPoint.BAD, x -> x.worth(24, 0, 1, 0), x -> x.worth(0, 120000, 1, 0),
            x -> x.worth(0, 0, 12, 0), x -> x.worth(0, 0, 1, 40));
    }
}
