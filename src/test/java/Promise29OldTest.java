/** Promise 29: old: OF OLD, as bits. The marks stay. BAD; STATE: fewer than 2. */
public final class Promise29OldTest {
    private Promise29OldTest() {
    }

    public static void main(String[] args) {
        fewerThanTwo();
        beThereAtIt();
        stayingWhereOneIs();
        hoursAndHeights();
        notWearyAtEach();
        sixMarks();
        eachOne();
        windByWind();
        byTideAndSort();
        firstAndLastMinute();
        lastPlaces();
        marksStay();
        refused();
        Due.end();
    }

    private static void fewerThanTwo() {
        RoundPoint x = Shore.of("0:0", 0, 0);
        Due.is("29 none", x.old(0), RoundPoint.STATE);
        x.mark(5);
        Due.is("29 one", x.old(0), RoundPoint.STATE);
        x.mark(6);
        Due.is("29 two", x.old(0), 1);
        x.unmark();
        Due.is("29 none again", x.old(0), RoundPoint.STATE);
        Due.is("29 bad ahead of state", x.old(1), RoundPoint.BAD);
        Due.is("29 bad ahead of state, sort", x.old(40), RoundPoint.BAD);
    }

    private static void old(RoundPoint x, String what, int due, int... marks) {
        Shore.marks(x, marks);
        Due.is("29 " + what, x.old(0), due);
    }

    /** By its MINUTE, and be there at it. */
    private static void beThereAtIt() {
        RoundPoint x = Shore.strait("0:50", 50, 10050);
        old(x, "just there", 1, 100, 10110);
        old(x, "a minute too soon", 0, 100, 10109);
        old(x, "waiting there", 1, 100, 10900);
        x.safe(0, 0);
        x.safe(1, 0);
        old(x, "just there, wet", 1, 100, 10110);
        old(x, "not waiting, wet", 0, 100, 10111);
        // from 100: there at 110, back at 121, there at 133
        old(x, "there and back and there", 1, 100, 10133);
        old(x, "there and back", 1, 100, 121);
        old(x, "not a minute later", 0, 100, 122);
    }

    private static void stayingWhereOneIs() {
        RoundPoint x = Shore.of(Shore.SPIKE, 49);
        old(x, "a minute", 1, 499, 500);
        old(x, "into the wet minute", 0, 500, 501);
        old(x, "out of it", 0, 501, 502);
        old(x, "through it", 0, 400, 600);
        old(x, "behind it till the end", 1, 502, 1439);
        x.safe(0, 50);
        old(x, "all day", 1, 0, 1439);
    }

    private static void hoursAndHeights() {
        RoundPoint x = Shore.strait(Shore.SPIKE, 999, 10049);
        old(x, "ahead of the height", 1, 490, 10500);
        old(x, "at it", 0, 491, 10501);
        old(x, "behind it", 1, 491, 10512);
        old(x, "not sooner", 0, 491, 10511);
        x.alter(0, 0, 50);
        old(x, "at just its height", 1, 491, 10501);
        Shore.hours(x, 0, 60, 100);
        old(x, "at the first hour", 1, 0, 10070);
        old(x, "ahead of the first hour", 0, 0, 10069);
        old(x, "at the last hour", 1, 100, 10110);
        old(x, "behind the last hour", 0, 101, 10111);
        Shore.hours(x, 0, 0, 1439);
        old(x, "at the last minute", 1, 1429, 11439);
        old(x, "beyond the last minute", 0, 1430, 11439);
        x.light(0, 600);
        x.light(1, 700);
        old(x, "the light is nothing to it", 1, 1000, 11010);
    }

    /** WEARY 0 at each mark. */
    private static void notWearyAtEach() {
        RoundPoint x = Shore.of("0:0", 0, 0, 0);
        x.way(1, 50000);
        x.way(102, 50000);
        old(x, "both ways fresh", 1, 0, 10050, 20100);
        old(x, "the second weary", 0, 0, 20100);
        old(x, "the second weary, later", 1, 0, 20105);
    }

    private static void sixMarks() {
        RoundPoint x = Shore.strait("0:0", 0, 10000);
        old(x, "six, ten minutes each", 1, 0, 10010, 20, 10030, 40, 10050);
        old(x, "the last too soon", 0, 0, 10010, 20, 10030, 40, 10049);
        old(x, "the second too soon", 0, 0, 10009, 20, 10030, 40, 10050);
        old(x, "the third too soon", 0, 0, 10010, 19, 10030, 40, 10050);
        old(x, "the fifth too soon, the sixth later", 0, 0, 10010, 20, 10030, 39, 10050);
    }

    /** Each next one from the one ahead, not from the first. */
    private static void eachOne() {
        RoundPoint x = Shore.of("0:0", 0, 0, 0);
        x.way(1, 10000);
        x.way(102, 10000);
        old(x, "by the middle", 1, 0, 10010, 20020);
        old(x, "not from the far place so soon", 0, 0, 20021, 25);
        Shore.hours(x, 0, 0, 0);
        old(x, "the first way once", 1, 0, 10010, 20030);
        old(x, "not back", 0, 0, 10010, 30);
    }

    private static void windByWind() {
        RoundPoint x = Shore.strait("0:50", 54, 10054);
        for (int wind = 1; wind < 5; wind++) {
            x.wind(wind, 0, 1);
        }
        Shore.marks(x, 0, 10010, 10020);
        int[] due = {31, 15, 7, 3, 1, 0};
        for (int less = 0; less < 6; less++) {
            x.alter(0, 0, 54 - less);
            Due.is("29 the way, less " + less, x.old(0), due[less]);
        }
        x.alter(0, 0, 99);
        for (int less = 0; less < 6; less++) {
            x.safe(1, 54 - less);
            Due.is("29 the wait, less " + less, x.old(0), due[less]);
        }
        x.safe(1, 99);
        Due.is("29 by a quick sort", x.old(10), 31);
        Due.is("29 by a slow sort", x.old(30), 0);
        // all in one WIND: the first step goes in one, the second in another
        RoundPoint y = Shore.of("0:0;600:0;601:100;700:100;701:0", 999, 999);
        y.wind(0, 60, 1);
        y.way(1, 10050);
        Shore.marks(y, 690, 10700);
        Due.is("29 the early wind alone", y.old(0), 2);
        Shore.marks(y, 580, 10590);
        Due.is("29 the still one alone", y.old(0), 1);
        Shore.marks(y, 580, 10590, 10690, 700);
        Due.is("29 neither does both", y.old(0), 0);
    }

    /** st: 10 times the SORT, and the TIDE: of 0 one may wait there, of 10 to 50 one must come just then. */
    private static void byTideAndSort() {
        RoundPoint x = Shore.ten(0);
        Shore.marks(x, 100, 10115);
        for (int st = 0; st < 40; st++) {
            boolean can = st % 10 == 0 ? st / 10 < 3 : st % 10 <= 5 && st / 10 == 2;
            Due.is("29 st " + st, x.old(st), can ? 1 : 0);
        }
    }

    private static void firstAndLastMinute() {
        RoundPoint x = Shore.strait(Shore.FIRST_HIGH, 49, 10049);
        old(x, "wet at the first minute", 0, 0, 1);
        old(x, "not from the second on", 1, 1, 2);
        old(x, "high at the first minute", 0, 0, 10010);
        old(x, "not at the second", 1, 1, 10011);
        RoundPoint y = Shore.strait(Shore.LAST_HIGH, 49, 10049);
        old(y, "wet at the last minute", 0, 1438, 1439);
        old(y, "not up to the one ahead", 1, 1437, 1438);
        old(y, "high at the last minute", 0, 1429, 11439);
        old(y, "not at the one ahead", 1, 1428, 11438);
    }

    /** Late places at early minutes. */
    private static void lastPlaces() {
        RoundPoint x = Shore.of("0:0", 0, 0, 0, 0, 0, 0, 0, 0, 0, 0, 0, 0);
        x.way(1011, 1000);
        x.way(9, 2000);
        old(x, "from 11 to 10", 1, 110000, 100001);
        old(x, "from 10 to 11", 1, 100000, 110001);
        old(x, "from 0 to 9", 1, 0, 90002);
        old(x, "from 9 to 0", 1, 90000, 2);
        old(x, "from 10 to 9", 0, 100000, 90002);
        old(x, "staying at 11", 1, 110000, 110001, 111439);
    }

    private static void marksStay() {
        Refused.some("29 asked changes nothing", 7, x -> marked(x, 10, 700), x -> marked(x, 10, 700));
        RoundPoint x = Shore.strait("0:0", 0, 10000);
        Shore.marks(x, 0, 10010);
        Due.is("29 first", x.old(0), 1);
        Due.is("29 they stay", x.count(6), 2);
        Due.is("29 asked twice", x.old(0), 1);
        Due.is("29 more behind them", x.mark(20), 3);
    }

    /** The marks that some() has, and others for the asking between. */
    private static int marked(RoundPoint x, int... marks) {
        Shore.marks(x, marks);
        int answer = x.old(0);
        Shore.marks(x, 10, 10041, 20060);
        return answer;
    }

    private static void refused() {
        Refused.some("29 wrong", RoundPoint.BAD, x -> x.old(-1), x -> x.old(2), x -> x.old(12), x -> x.old(40),
            x -> x.old(Integer.MAX_VALUE), x -> x.old(Integer.MIN_VALUE));
        Refused.on(() -> {
            RoundPoint x = Shore.some();
            Shore.marks(x, 7);
            return x;
        }, "29 fewer than two", RoundPoint.STATE, x -> x.old(0), x -> x.old(31));
        Refused.full("29 wrong, full", RoundPoint.BAD, x -> x.old(40));
    }
}
