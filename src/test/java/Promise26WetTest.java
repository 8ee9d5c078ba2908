/** Promise 26: wet: WET. BAD; NOT. */
public final class Promise26WetTest {
    private Promise26WetTest() {
    }

    public static void main(String[] args) {
        allMovesGo();
        waitingGoesNoMore();
        wetAtOnce();
        aWayGoesThen();
        hoursAndHeightsThen();
        wearyThen();
        waitTillTheEnd();
        ofTheFirstMove();
        byTideAndSort();
        firstMinute();
        inTheWind();
        refused();
        Due.end();
    }

    private static void allMovesGo() {
        RoundPoint x = Shore.of("0:50", 0);
        Due.is("26 no moves, wet", x.wet(5, 0, 0), RoundPoint.NOT);
        x.safe(0, 50);
        Shore.plan(x, 101);
        Due.is("26 all go", x.wet(5, 0, 0), RoundPoint.NOT);
        RoundPoint y = Shore.of("0:50;5:50;6:51", 50);
        Shore.plan(y, 101);
        Due.is("26 all go, wet behind the end", y.wet(4, 0, 0), RoundPoint.NOT);
        Due.is("26 it does not go", y.wet(5, 0, 0), 5);
    }

    /** Wet at 501 alone; no way at all. */
    private static void waitingGoesNoMore() {
        RoundPoint x = Shore.of(Shore.SPIKE, 49);
        Shore.plan(x, 340);
        Due.is("26 the last dry minute", x.wet(400, 0, 0), 500);
        Due.is("26 of a wait that ends just too late", x.wet(261, 0, 0), 500);
        Due.is("26 of one that ends just in time", x.wet(260, 0, 0), RoundPoint.NOT);
        Due.is("26 at the last dry minute", x.wet(500, 0, 0), 500);
        x.safe(0, 50);
        Due.is("26 dry at just SAFE", x.wet(400, 0, 0), RoundPoint.NOT);
    }

    private static void wetAtOnce() {
        RoundPoint x = Shore.of(Shore.SPIKE, 49);
        Shore.plan(x, 101);
        Due.is("26 wet when one starts", x.wet(501, 0, 0), 501);
        RoundPoint y = Shore.of("0:50", 49);
        Shore.plan(y, 101);
        Due.is("26 wet all day", y.wet(0, 0, 0), 0);
        Due.is("26 wet all day, a minute ahead of the end", y.wet(1438, 0, 0), 1438);
    }

    /** A WAY from there goes at that MINUTE, whichever it is and wherever it leads. */
    private static void aWayGoesThen() {
        RoundPoint x = Shore.of(Shore.SPIKE, 49, 0, 0);
        Shore.plan(x, 340);
        Due.is("26 no way", x.wet(400, 0, 0), 500);
        x.way(102, 10999);
        Due.is("26 a way between others", x.wet(400, 0, 0), 500);
        x.way(200, 10999);
        Due.is("26 a way from there", x.wet(400, 0, 0), RoundPoint.NOT);
        Shore.hours(x, 1, 0, 499);
        Due.is("26 a way that went a minute ago", x.wet(400, 0, 0), 500);
        Shore.hours(x, 1, 501, 1439);
        Due.is("26 a way that goes a minute later", x.wet(400, 0, 0), 500);
        Shore.hours(x, 1, 500, 500);
        Due.is("26 a way that goes just then", x.wet(400, 0, 0), RoundPoint.NOT);
        x.way(1, 10000);
        Due.is("26 a second one that does not go", x.wet(400, 0, 0), RoundPoint.NOT);
        Shore.hours(x, 1, 0, 0);
        Due.is("26 neither goes", x.wet(400, 0, 0), 500);
    }

    private static void hoursAndHeightsThen() {
        // place 0 is wet from 101 on
        RoundPoint x = Shore.strait("100:0;110:100", 0, 10099);
        Shore.plan(x, 340);
        Due.is("26 too high when one would come", x.wet(50, 0, 0), 100);
        x.alter(0, 0, 100);
        Due.is("26 at just its height", x.wet(50, 0, 0), RoundPoint.NOT);
        x.alter(0, 0, 9);
        Due.is("26 too high at once", x.wet(105, 0, 0), 105);
        x.alter(0, 0, 100);
        Due.is("26 from a wet minute", x.wet(105, 0, 0), RoundPoint.NOT);
        // not beyond the day
        RoundPoint y = Shore.strait("1429:0;1430:1", 0, 10100);
        Shore.plan(y, 340);
        Due.is("26 there at the last minute", y.wet(1400, 0, 0), RoundPoint.NOT);
        RoundPoint z = Shore.strait("1430:0;1431:1", 0, 10100);
        Shore.plan(z, 340);
        Due.is("26 a minute late", z.wet(1400, 0, 0), 1430);
    }

    /** By then one is as WEARY as the ways walked have made. */
    private static void wearyThen() {
        // wet from 300 on; the way begun at 299 is high from 299 + t on
        int[] takes = {50, 55, 60, 65, 65};
        for (int walked = 0; walked < 5; walked++) {
            int high = 299 + takes[walked];
            RoundPoint x = Shore.strait("299:0;300:1;" + high + ":1;" + (high + 1) + ":9", 0, 50001);
            x.drop();
            for (int i = 0; i < walked; i++) {
                x.move(0);
            }
            x.move(340);
            x.move(340);
            Due.is("26 weary by " + walked + ", just in time", x.wet(0, 0, 0), RoundPoint.NOT);
            RoundPoint y = Shore.strait("299:0;300:1;" + (high - 1) + ":1;" + high + ":9", 0, 50001);
            y.drop();
            for (int i = 0; i < walked; i++) {
                y.move(0);
            }
            y.move(340);
            y.move(340);
            Due.is("26 weary by " + walked + ", too late", y.wet(0, 0, 0), 299);
        }
    }

    /** NOT: one may wait till 1439. */
    private static void waitTillTheEnd() {
        RoundPoint x = Shore.of("0:0", 0, 0);
        x.way(1, 10000);
        Shore.hours(x, 0, 0, 0);
        Shore.plan(x, 0);
        Due.is("26 till the end", x.wet(5, 0, 0), RoundPoint.NOT);
        Due.is("26 a last minute", x.wet(1438, 0, 0), RoundPoint.NOT);
        Due.is("26 at the end", x.wet(1439, 0, 0), RoundPoint.NOT);
        RoundPoint y = Shore.of("1438:0;1439:1", 0);
        Shore.plan(y, 340);
        Due.is("26 wet at the last minute", y.wet(1400, 0, 0), 1438);
        y.safe(0, 1);
        Due.is("26 dry at the last minute", y.wet(1400, 0, 0), RoundPoint.NOT);
        RoundPoint z = Shore.of("1437:1;1438:0", 0);
        Shore.plan(z, 340);
        Due.is("26 dry from the last but one on", z.wet(1438, 0, 0), RoundPoint.NOT);
        Due.is("26 wet ahead of it", z.wet(1437, 0, 0), 1437);
    }

    /** Of the first move that does not go: from there, at its MINUTE. */
    private static void ofTheFirstMove() {
        RoundPoint x = Shore.of("0:0;300:0;301:9", 0, 0, 9);
        x.way(1, 10000);
        x.way(102, 10000);
        Shore.plan(x, 0, 1, 1);
        Shore.hours(x, 0, 0, 100);
        Shore.hours(x, 1, 200, 200);
        Due.is("26 at the second move's place", x.wet(0, 0, 0), 300);
        Due.is("26 at the first move's place", x.wet(101, 0, 0), 300);
        Due.is("26 at the third move's place", x.wet(20005, 0, 0), RoundPoint.NOT);
        Shore.plan(x, 1, 110, 110);
        Due.is("26 of a way that does not lead on", x.wet(5, 0, 0), 300);
        x.safe(0, 9);
        Due.is("26 it is dry there", x.wet(5, 0, 0), RoundPoint.NOT);
        Due.is("26 it is not dry elsewhere", x.wet(10201, 0, 0), 300);
    }

    /** st: 10 times the SORT, and the TIDE: of 0 it is dry, of 10 to 50 the way goes. */
    private static void byTideAndSort() {
        RoundPoint x = Shore.ten(0);
        Shore.hours(x, 0, 100, 100);
        Shore.plan(x, 0, 101);
        RoundPoint y = Shore.ten(0);
        Shore.plan(y, 101);
        for (int st = 0; st < 40; st++) {
            int tide = st % 10;
            int there = tide <= 5 ? 100 + Shore.TEN[st / 10] : 100;
            Due.is("26 where one has come, st " + st, x.wet(100, st, 0), tide == 0 ? RoundPoint.NOT : there);
            boolean open = tide == 0 || tide <= 5 && st / 10 < 3;
            Due.is("26 whether a way goes, st " + st, y.wet(1424, st, 0), open ? RoundPoint.NOT : 1424);
        }
    }

    /** Shut in at the MINUTE 0 itself. */
    private static void firstMinute() {
        RoundPoint x = Shore.of("0:0;1:50", 0, 0);
        Shore.plan(x, 101);
        Due.is("26 wet from the second minute on", x.wet(0, 0, 0), 0);
        Due.is("26 at the other place too", x.wet(10000, 0, 0), 0);
        x.way(1, 1049);
        Due.is("26 the way is too high when one comes", x.wet(0, 0, 0), 0);
        x.alter(0, 0, 50);
        Due.is("26 the way goes then", x.wet(0, 0, 0), RoundPoint.NOT);
        RoundPoint y = Shore.of(Shore.FIRST_HIGH, 49);
        Shore.plan(y, 101);
        Due.is("26 wet at the first minute alone", y.wet(0, 0, 0), 0);
        Due.is("26 not from the second on", y.wet(1, 0, 0), RoundPoint.NOT);
    }

    private static void inTheWind() {
        RoundPoint x = Shore.of(Shore.TENT, 40);
        x.wind(10, 0, 1);
        x.wind(0, 15, 1);
        Shore.plan(x, 340);
        Due.is("26 still", x.wet(0, 0, 0), 40);
        Due.is("26 lifted", x.wet(0, 0, 1), 30);
        Due.is("26 early", x.wet(0, 0, 2), 25);
        x.place(0);
        x.way(1, 10060);
        Due.is("26 a way still", x.wet(0, 0, 0), RoundPoint.NOT);
        x.alter(0, 0, 49);
        Due.is("26 no way", x.wet(0, 0, 0), 40);
        x.alter(0, 0, 50);
        Due.is("26 the way by a slow sort", x.wet(0, 30, 0), 40);
        Due.is("26 the way by a quick sort", x.wet(0, 10, 0), RoundPoint.NOT);
    }

    private static void refused() {
        RoundPoint full = Shore.full();
        Due.is("26 the last of all", full.wet(111439, 39, 4), RoundPoint.NOT);
        Refused.some("26 wrong", RoundPoint.BAD, x -> x.wet(-1, 0, 0), x -> x.wet(1440, 0, 0), x -> x.wet(40000, 0, 0),
            x -> x.wet(0, -1, 0), x -> x.wet(0, 2, 0), x -> x.wet(0, 40, 0), x -> x.wet(0, 0, -1), x -> x.wet(0, 0, 3),
            x -> x.wet(Integer.MAX_VALUE, 0, 0), x -> x.wet(Integer.MIN_VALUE, 0, 0), x -> x.wet(0, Integer.MAX_VALUE, 0),
            x -> x.wet(0, Integer.MIN_VALUE, 0), x -> x.wet(0, 0, Integer.MAX_VALUE), x -> x.wet(0, 0, Integer.MIN_VALUE));
        Refused.some("26 not", RoundPoint.NOT, x -> x.wet(10, 0, 0), x -> x.wet(11439, 0, 2));
        Refused.full("26 wrong, full", RoundPoint.BAD, x -> x.wet(120000, 0, 0), x -> x.wet(0, 40, 0), x -> x.wet(0, 0, 5));
    }
}
