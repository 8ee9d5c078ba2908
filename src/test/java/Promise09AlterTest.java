/** Promise 9: alter: HEIGHT (what 0), first hour (1), last hour (2) of a WAY becomes v: what it was. BAD (the first above the last). */
public final class Promise09AlterTest {
    private Promise09AlterTest() {
    }

    public static void main(String[] args) {
        heightFromNoughtTo999();
        hoursFromNoughtTo1439();
        firstNotAboveLast();
        passableUpToHeight();
        begunFromHourToHour();
        ofThisWayAlone();
        aChange();
        refused();
        Due.end();
    }

    private static void heightFromNoughtTo999() {
        RoundPoint x = Shore.strait("0:0", 0, 1005);
        Due.is("9 the least height", x.alter(0, 0, 0), 5);
        Due.is("9 below", x.alter(0, 0, -1), RoundPoint.BAD);
        Due.is("9 the greatest", x.alter(0, 0, 999), 0);
        Due.is("9 above", x.alter(0, 0, 1000), RoundPoint.BAD);
        Due.is("9 as told", x.alter(0, 0, 999), 999);
    }

    private static void hoursFromNoughtTo1439() {
        RoundPoint x = Shore.strait("0:0", 0, 1005);
        Due.is("9 first: below", x.alter(0, 1, -1), RoundPoint.BAD);
        Due.is("9 first: above", x.alter(0, 1, 1440), RoundPoint.BAD);
        Due.is("9 first: the latest", x.alter(0, 1, 1439), 0);
        Due.is("9 first: the earliest", x.alter(0, 1, 0), 1439);
        Due.is("9 last: below", x.alter(0, 2, -1), RoundPoint.BAD);
        Due.is("9 last: above", x.alter(0, 2, 1440), RoundPoint.BAD);
        Due.is("9 last: the earliest", x.alter(0, 2, 0), 1439);
        Due.is("9 last: the latest", x.alter(0, 2, 1439), 0);
    }

    private static void firstNotAboveLast() {
        RoundPoint x = Shore.strait("0:0", 0, 1005);
        x.alter(0, 2, 700);
        Due.is("9 first above last", x.alter(0, 1, 701), RoundPoint.BAD);
        Due.is("9 first as last", x.alter(0, 1, 700), 0);
        Due.is("9 last below first", x.alter(0, 2, 699), RoundPoint.BAD);
        Due.is("9 last as it is", x.alter(0, 2, 700), 700);
        Due.is("9 last above first", x.alter(0, 2, 701), 700);
        Due.is("9 a height is no hour", x.alter(0, 0, 999), 5);
        Due.is("9 nor this", x.alter(0, 0, 3), 999);
    }

    private static void passableUpToHeight() {
        RoundPoint x = Shore.strait("0:50", 0, 10000);
        x.alter(0, 0, 49);
        Due.is("9 below the sea", x.open(0, 0, 1, 0), 0);
        x.alter(0, 0, 50);
        Due.is("9 at just the sea", x.open(0, 0, 1, 0), 1430);
    }

    private static void begunFromHourToHour() {
        RoundPoint x = Shore.strait("0:50", 50, 10050);
        x.alter(0, 1, 60);
        x.alter(0, 2, 100);
        Due.is("9 from the first hour", x.open(0, 0, 1, 1), 60);
        Due.is("9 to the last hour", x.open(0, 0, 1, 2), 100);
        Due.is("9 all between", x.open(0, 0, 1, 0), 41);
        x.alter(0, 1, 100);
        Due.is("9 one minute", x.open(0, 0, 1, 0), 1);
    }

    private static void ofThisWayAlone() {
        RoundPoint x = Shore.of("0:0", 0, 0);
        for (int way = 0; way < 24; way++) {
            x.way(1, 1000 + way);
        }
        for (int what = 0; what < 3; what++) {
            x.alter(0, what, 500);
            x.alter(23, what, 600);
        }
        for (int way = 1; way < 23; way++) {
            Due.is("9 height beside " + way, x.alter(way, 0, way), way);
            Due.is("9 first beside " + way, x.alter(way, 1, 0), 0);
            Due.is("9 last beside " + way, x.alter(way, 2, 1439), 1439);
        }
        for (int what = 0; what < 3; what++) {
            Due.is("9 of the first, " + what, x.alter(0, what, 500), 500);
            Due.is("9 of the last, " + what, x.alter(23, what, 600), 600);
        }
    }

    private static void aChange() {
        for (int what = 0; what < 3; what++) {
            RoundPoint x = Shore.strait("0:0", 0, 1005);
            int was = what == 0 ? 5 : what == 1 ? 0 : 1439;
            x.alter(0, what, was);
            Due.is("9 the same number is none, " + what, x.count(7), 0);
            x.alter(0, what, 700);
            Due.is("9 another is one, " + what, x.count(7), 1);
            x.undo();
            Due.is("9 undone, " + what, x.alter(0, what, was), was);
        }
    }

    private static void refused() {
        Refused.some("9 wrong", RoundPoint.BAD, x -> x.alter(-1, 0, 5), x -> x.alter(4, 0, 5), x -> x.alter(0, -1, 5),
            x -> x.alter(0, 3, 5), x -> x.alter(0, 0, -1), x -> x.alter(0, 0, 1000), x -> x.alter(0, 1, -1),
            x -> x.alter(0, 1, 1440), x -> x.alter(0, 2, -1), x -> x.alter(0, 2, 1440),
            x -> x.alter(1, 1, 1401), x -> x.alter(1, 2, 9), x -> x.alter(Integer.MAX_VALUE, 0, 5),
            x -> x.alter(Integer.MIN_VALUE, 0, 5), x -> x.alter(0, Integer.MAX_VALUE, 5),
            x -> x.alter(0, Integer.MIN_VALUE, 5), x -> x.alter(0, 0, Integer.MAX_VALUE),
            x -> x.alter(0, 1, Integer.MIN_VALUE), x -> x.alter(0, 2, Integer.MAX_VALUE));
        Refused.some("9 the same number changes nothing", 1400, x -> x.alter(1, 2, 1400), x -> x.alter(1, 2, 1400));
        Refused.full("9 wrong, full", RoundPoint.BAD, x -> x.alter(24, 0, 5), x -> x.alter(23, 0, 1000));
    }
}
