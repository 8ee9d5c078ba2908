/** Promises 13 to 21: what is reached. */
public final class ReachedTest {
    /** Rises from 0 at 0 to 600 at 600 and falls again to 0 at 1200: a minute on, a height more. */
    private static final String TENT = "0:0;600:600;1200:0";

    private ReachedTest() {
    }

    public static void main(String[] args) {
        opening();
        openWrong();
        soonest();
        soonWearier();
        soonWaiting();
        soonInAllWinds();
        soonWrong();
        latest();
        latestByWaiting();
        latestWrong();
        bestOfWinds();
        bestAmongLikes();
        daysOfTides();
        meeting();
        worthOfHours();
        worthOfHeight();
        mustWait();
        elsewhere();
        firstMinute();
        lastOfTenTides();
        Due.end();
    }

    private static void opening() {
        RoundPoint x = Shore.of(TENT, 999, 999);
        x.way(1, 30100);
        x.wind(20, 0, 1);
        // still: at 0 .. 70 (then 100 at most) and again from 1100 on till 1409
        Due.is("13 how many", x.open(0, 0, 1, 0), 71 + 310);
        Due.is("13 the first", x.open(0, 0, 1, 1), 0);
        Due.is("13 the last", x.open(0, 0, 1, 2), 1409);
        Due.is("13 in the higher wind", x.open(0, 0, 2, 0), 51 + 290);
        Due.is("13 in both", x.open(0, 0, 3, 0), 51 + 290);
        Due.is("13 a quicker sort", x.open(0, 10, 1, 2), 1415);
        x.alter(0, 2, 60);
        Due.is("13 by its last hour", x.open(0, 0, 1, 0), 61);
        Due.is("13 by its last hour, the last", x.open(0, 0, 1, 2), 60);
        x.alter(0, 1, 60);
        Due.is("13 one minute", x.open(0, 0, 1, 0), 1);
        Due.is("13 that one", x.open(0, 0, 1, 1), 60);
        Due.is("13 not in the wind", x.open(0, 0, 2, 0), 0);
        Due.is("13 no first", x.open(0, 0, 2, 1), RoundPoint.NOT);
        Due.is("13 no last", x.open(0, 0, 2, 2), RoundPoint.NOT);
        x.light(0, 900);
        Due.is("13 the light is nothing to it", x.open(0, 0, 1, 0), 1);
        x.safe(0, 0);
        x.safe(1, 0);
        Due.is("13 nor that places are wet", x.open(0, 0, 1, 0), 1);
    }

    private static void openWrong() {
        RoundPoint x = Shore.of(TENT, 999, 999);
        x.way(1, 30100);
        int[][] wrong = {{1, 0, 1, 0}, {-1, 0, 1, 0}, {0, 1, 1, 0}, {0, 40, 1, 0}, {0, -1, 1, 0}, {0, 0, 0, 0},
            {0, 0, 2, 0}, {0, 0, -1, 0}, {0, 0, 1, 3}, {0, 0, 1, -1}};
        for (int[] w : wrong) {
            Due.is("13 wrong", x.open(w[0], w[1], w[2], w[3]), RoundPoint.BAD);
        }
    }

    private static void soonest() {
        RoundPoint x = Shore.of(TENT, 999, 999, 999, 999);
        x.way(1, 30100);
        x.way(102, 10999);
        x.way(2, 80999);
        Due.is("14 by the two", x.soon(0, 2, 0, 1), 41);
        Due.is("14 just in time", x.soon(70, 1, 0, 1), 100);
        Due.is("14 round the other way", x.soon(71, 1, 0, 1), 71 + 80 + 11);
        Due.is("14 here already", x.soon(71, 0, 0, 1), 71);
        Due.is("14 no way there", x.soon(0, 3, 0, 1), RoundPoint.NOT);
        Due.is("14 at the end of the day", x.soon(1398, 2, 0, 1), 1439);
        Due.is("14 beyond it", x.soon(1399, 2, 0, 1), RoundPoint.NOT);
        Due.is("14 dark is nothing to it", x.light(1, 5), 1439);
        Due.is("14 so it stays", x.soon(0, 2, 0, 1), 41);
    }

    private static void soonWearier() {
        RoundPoint x = Shore.of("0:0", 9, 9, 9, 9, 9, 9);
        for (int place = 0; place < 5; place++) {
            x.way(101 * place + 1, 50000);
        }
        int[] due = {0, 50, 105, 165, 230, 295};
        for (int place = 0; place < 6; place++) {
            Due.is("14 wearier by each way " + place, x.soon(0, place, 0, 1), due[place]);
        }
        Due.is("14 not by waiting", x.soon(300, 1, 0, 1), 350);
        Due.is("15 wearier by each way", x.last(5, 0, 1), 1439 - 295);
        Due.is("15 wearier by each way, back", x.last(501, 0, 1), 1439 - 230);
    }

    private static void soonWaiting() {
        // place 1 is dry up to 40 and again from 1160 on; way 1 only from 60 on
        RoundPoint x = Shore.of(TENT, 999, 40, 999);
        x.way(1, 10999);
        x.way(102, 10999);
        x.alter(1, 1, 60);
        Due.is("14 coming wet, going on at once", x.soon(0, 2, 0, 1), 71);
        x.alter(0, 2, 20);
        Due.is("14 no waiting where it gets wet", x.soon(0, 2, 0, 1), RoundPoint.NOT);
        Due.is("14 one may start where it is wet", x.soon(10060, 2, 0, 1), 70);
        Due.is("14 but not wait there", x.soon(10059, 2, 0, 1), RoundPoint.NOT);
        x.alter(0, 2, 30);
        Due.is("14 there and back and there once more", x.soon(0, 2, 0, 1), RoundPoint.NOT);
        x.alter(1, 1, 41);
        Due.is("14 so as to come just then", x.soon(0, 2, 0, 1), 54);
        x.alter(0, 2, 20);
        x.alter(1, 1, 40);
        Due.is("14 waiting up to just safe", x.soon(0, 2, 0, 1), 51);
        x.alter(1, 1, 41);
        Due.is("14 not a minute more", x.soon(0, 2, 0, 1), RoundPoint.NOT);
        Due.is("14 the goal may be wet", x.soon(20, 1, 0, 1), 30);
        x.alter(0, 2, 500);
        Due.is("14 wet when one comes", x.soon(300, 1, 0, 1), 310);
    }

    private static void soonInAllWinds() {
        RoundPoint x = Shore.of(TENT, 999, 999);
        x.wind(50, 0, 1);
        x.wind(0, 60, 1);
        x.way(1, 30100);
        x.way(1, 60999);
        Due.is("14 still", x.soon(60, 1, 0, 1), 90);
        Due.is("14 lifted", x.soon(60, 1, 0, 2), 120);
        Due.is("14 early", x.soon(60, 1, 0, 4), 120);
        Due.is("14 all", x.soon(20, 1, 0, 7), 80);
        Due.is("14 two of them", x.soon(20, 1, 0, 3), 50);
        Due.is("14 just those", x.soon(20, 1, 0, 5), 80);
    }

    private static void soonWrong() {
        RoundPoint x = Shore.of(TENT, 999, 999);
        x.way(1, 30100);
        int[][] wrong = {{-1, 1, 0, 1}, {1440, 1, 0, 1}, {20000, 1, 0, 1}, {0, 2, 0, 1}, {0, -1, 0, 1}, {0, 1, 1, 1},
            {0, 1, -10, 1}, {0, 1, 40, 1}, {0, 1, 0, 0}, {0, 1, 0, 2}};
        for (int[] w : wrong) {
            Due.is("14 wrong", x.soon(w[0], w[1], w[2], w[3]), RoundPoint.BAD);
        }
    }

    private static void latest() {
        RoundPoint x = Shore.of(TENT, 999, 40, 999);
        x.way(1, 30100);
        x.way(102, 10999);
        Due.is("15 by dark", x.last(1, 0, 1), 1409);
        Due.is("15 two ways, the second wearier", x.last(2, 0, 1), 1439 - 41);
        Due.is("15 back", x.last(200, 0, 1), 1439 - 43);
        x.light(1, 1000);
        Due.is("15 dark at high water", x.last(1, 0, 1), 70);
        x.light(1, 99);
        Due.is("15 dark sooner", x.last(1, 0, 1), 69);
        x.light(0, 69);
        Due.is("15 dawn just then", x.last(1, 0, 1), 69);
        x.light(0, 70);
        Due.is("15 dawn too late", x.last(1, 0, 1), RoundPoint.NOT);
        x.light(0, 0);
        x.light(1, 1000);
        x.alter(0, 2, 500);
        x.alter(0, 1, 50);
        Due.is("15 from a wet place", x.last(100, 0, 1), 70);
        x.alter(0, 2, 50);
        Due.is("15 not waiting there", x.last(100, 0, 1), 50);
        x.alter(0, 0, 20);
        Due.is("15 shut", x.last(1, 0, 1), RoundPoint.NOT);
        x.alter(1, 1, 60);
        x.alter(1, 2, 70);
        Due.is("15 waiting where it is dry", x.last(201, 0, 1), 70);
        Due.is("15 from where it is wet, at once", x.last(102, 0, 1), 70);
    }

    private static void latestByWaiting() {
        RoundPoint x = Shore.of(TENT, 40, 60, 999);
        x.way(1, 10999);
        x.way(102, 10999);
        x.alter(0, 2, 20);
        x.alter(1, 1, 60);
        x.alter(1, 2, 65);
        Due.is("15 waiting on the way", x.last(2, 0, 1), 20);
        x.light(1, 71);
        Due.is("15 waiting just till dark", x.last(2, 0, 1), 20);
        x.light(1, 70);
        Due.is("15 dark while waiting", x.last(2, 0, 1), RoundPoint.NOT);
        x.light(1, 1439);
        x.safe(1, 59);
        Due.is("15 too wet to wait", x.last(2, 0, 1), RoundPoint.NOT);
        x.safe(1, 60);
        x.wind(1, 0, 1);
        Due.is("15 too wet in the wind", x.last(2, 0, 2), RoundPoint.NOT);
        x.alter(0, 2, 60);
        Due.is("15 straight on", x.last(2, 0, 1), 55);
        x.safe(1, 0);
        Due.is("15 straight on, wet", x.last(2, 0, 3), 55);
    }

    private static void latestWrong() {
        RoundPoint x = Shore.of(TENT, 999, 999);
        x.way(1, 30100);
        int[][] wrong = {{0, 0, 1}, {101, 0, 1}, {2, 0, 1}, {200, 0, 1}, {-1, 0, 1}, {1, 1, 1}, {1, -1, 1}, {1, 40, 1},
            {1, 0, 0}, {1, 0, 2}};
        for (int[] w : wrong) {
            Due.is("15 wrong", x.last(w[0], w[1], w[2]), RoundPoint.BAD);
        }
    }

    private static void bestOfWinds() {
        RoundPoint x = Shore.of(TENT, 999, 999, 999);
        x.wind(50, 0, 4);
        x.wind(90, 0, 2);
        x.way(1, 30100);
        x.alter(0, 2, 100);
        Due.is("16 all", x.best(0, 1, 0, 1), 3);
        Due.is("16 all, thousandths", x.best(0, 1, 0, 0), 714);
        Due.is("16 but the highest", x.best(30, 1, 0, 1), 1);
        Due.is("16 but the highest, thousandths", x.best(30, 1, 0, 0), 142);
        Due.is("16 here already", x.best(30, 0, 0, 0), 1000);
        Due.is("16 never there", x.best(0, 2, 0, 0), 0);
        Due.is("16 no set", x.best(0, 2, 0, 1), 0);
        x.light(1, 29);
        Due.is("16 not by dark", x.best(0, 1, 0, 1), 0);
        Due.is("16 not here by dark", x.best(30, 0, 0, 1), 0);
        Due.is("16 here by dark", x.best(29, 0, 0, 1), 7);
        x.light(1, 30);
        Due.is("16 by dark", x.best(0, 1, 0, 1), 3);
        int[][] wrong = {{-1, 1, 0, 0}, {30000, 1, 0, 0}, {0, 3, 0, 0}, {0, 1, 1, 0}, {0, 1, 0, 2}, {0, 1, 0, -1}};
        for (int[] w : wrong) {
            Due.is("16 wrong", x.best(w[0], w[1], w[2], w[3]), RoundPoint.BAD);
        }
    }

    private static void bestAmongLikes() {
        // the flood at 701 comes an hour sooner in the one wind, an hour later in the other
        RoundPoint x = Shore.of("0:0;700:0;701:300", 999, 999);
        x.wind(0, 60, 3);
        x.wind(0, -60, 3);
        x.way(1, 40150);
        x.alter(0, 1, 650);
        x.alter(0, 2, 720);
        Due.is("16 one of three", x.best(0, 1, 0, 1), 5);
        x.alter(0, 1, 670);
        Due.is("16 the latest alone", x.best(0, 1, 0, 1), 4);
        RoundPoint y = Shore.of("0:0", 999, 999);
        y.wind(10, 0, 2);
        y.wind(20, 0, 2);
        y.wind(30, 0, 4);
        y.way(1, 10025);
        Due.is("16 greatest sum", y.best(0, 1, 0, 1), 7);
        Due.is("16 its thousandths", y.best(0, 1, 0, 0), 555);
        alikeSets();
    }

    /** Two winds of like chances, each with a tide early or late that opens another way: neither goes in both. */
    private static void alikeSets() {
        RoundPoint x = Shore.of("0:300;500:300;501:0;600:0;601:300", 999, 999);
        x.wind(0, 50, 5);
        x.wind(0, -50, 5);
        x.way(1, 40100);
        x.way(1, 40100);
        x.alter(0, 1, 455);
        x.alter(0, 2, 480);
        x.alter(1, 1, 590);
        x.alter(1, 2, 600);
        Due.is("16 the one alone", x.soon(0, 1, 0, 2), 495);
        Due.is("16 the other alone", x.soon(0, 1, 0, 4), 630);
        Due.is("16 not in both", x.soon(0, 1, 0, 6), RoundPoint.NOT);
        Due.is("16 of like ones the least", x.best(0, 1, 0, 1), 2);
        Due.is("16 its chance", x.best(0, 1, 0, 0), 454);
    }

    private static void daysOfTides() {
        RoundPoint x = new RoundPoint();
        x.place(999);
        x.place(999);
        x.way(1, 30100);
        Due.is("17 no tides", x.days(1, 0, 0), 0);
        Due.is("17 none of them", x.days(1, 0, 1), RoundPoint.NOT);
        Shore.tide(x, "0:101");
        Due.is("17 shut all day", x.days(1, 0, 0), 0);
        Due.is("17 none is latest", x.days(1, 0, 1), RoundPoint.NOT);
        Shore.tide(x, "0:0;600:600");
        Shore.tide(x, "0:0;1200:600");
        Shore.tide(x, "0:0;1200:600");
        Due.is("17 three", x.days(1, 0, 0), 14);
        x.alter(0, 0, 101);
        Due.is("17 all four", x.days(1, 0, 0), 15);
        Due.is("17 then the first", x.days(1, 0, 1), 0);
        x.alter(0, 0, 100);
        Due.is("17 of like ones the first", x.days(1, 0, 1), 2);
        x.light(0, 100);
        Due.is("17 from dawn on", x.days(1, 0, 0), 12);
        x.wind(50, 0, 1);
        Due.is("17 in all winds", x.days(1, 0, 0), 0);
        x.light(0, 0);
        Due.is("17 in all winds, sooner", x.days(1, 0, 0), 14);
        x.alter(0, 0, 62);
        Due.is("17 by a slow sort", x.days(1, 3, 0), 0);
        Due.is("17 by a quick one", x.days(1, 1, 0), 12);
        int[][] wrong = {{0, 0, 0}, {2, 0, 0}, {-1, 0, 0}, {1, 4, 0}, {1, -1, 0}, {1, 0, 2}, {1, 0, -1}};
        for (int[] w : wrong) {
            Due.is("17 wrong", x.days(w[0], w[1], w[2]), RoundPoint.BAD);
        }
    }

    private static void meeting() {
        RoundPoint x = Shore.of(TENT, 999, 40, 999, 999);
        x.way(1, 30999);
        x.way(102, 20999);
        x.way(302, 30999);
        Due.is("18 in the middle", x.two(0, 20005, 0, 1, 0), 30);
        Due.is("18 the place", x.two(0, 20005, 0, 1, 1), 1);
        Due.is("18 waiting there not where it is wet", x.two(100, 20100, 0, 1, 0), 130);
        Due.is("18 both coming at once", x.two(100, 20110, 0, 1, 1), 1);
        Due.is("18 at one place from the beginning", x.two(7, 7, 0, 1, 0), 7);
        Due.is("18 one waits", x.two(7, 50, 0, 1, 0), 50);
        Due.is("18 least place of like minutes", x.two(1100, 30005, 0, 1, 1), 0);
        Due.is("18 none in time", x.two(1420, 31420, 0, 1, 0), RoundPoint.NOT);
        Due.is("18 no place then", x.two(1420, 31420, 0, 1, 1), RoundPoint.NOT);
        RoundPoint y = Shore.of("0:0", 9, 9, 9, 9);
        y.way(2, 30009);
        y.way(3, 30009);
        y.way(102, 30009);
        y.way(103, 30009);
        Due.is("18 the least of two places", y.two(0, 10000, 0, 1, 1), 2);
        int[][] wrong = {{-1, 0, 0, 1, 0}, {0, -1, 0, 1, 0}, {0, 40000, 0, 1, 0}, {0, 0, 1, 1, 0}, {0, 0, 0, 0, 0},
            {0, 0, 0, 2, 0}, {0, 0, 0, 1, 2}, {0, 0, 0, 1, -1}};
        for (int[] w : wrong) {
            Due.is("18 wrong", x.two(w[0], w[1], w[2], w[3], w[4]), RoundPoint.BAD);
        }
    }

    private static void worthOfHours() {
        RoundPoint x = Shore.of(TENT, 999, 999, 999);
        x.way(1, 30100);
        x.way(2, 30999);
        x.way(201, 90999);
        x.alter(0, 1, 60);
        Due.is("19 waiting for the hour", x.worth(0, 0, 1, 0), 60);
        Due.is("19 the other way is not told", x.worth(1, 0, 1, 0), 0);
        Due.is("19 the hours stay", x.alter(0, 1, 60), 60);
        Due.is("19 none is lost behind the hour", x.worth(0, 65, 1, 0), 0);
        x.alter(1, 1, 1439);
        x.alter(0, 1, 200);
        x.alter(0, 2, 700);
        Due.is("19 never is 1440", x.worth(0, 0, 1, 0), 1440 - 30);
        Due.is("19 last hour too", x.worth(0, 1120, 1, 0), 1440 - 1150);
        Due.is("19 the last hour stays", x.alter(0, 2, 700), 700);
        Due.is("19 here already", x.worth(0, 5, 0, 0), 0);
        x.wind(80, 0, 1);
        Due.is("19 in all winds", x.worth(0, 1120, 1, 0), 1440 - 1180 - 30);
        int[][] wrong = {{3, 0, 1, 0}, {-1, 0, 1, 0}, {0, -1, 1, 0}, {0, 1440, 1, 0}, {0, 0, 3, 0}, {0, 0, -1, 0},
            {0, 0, 1, 1}, {0, 0, 1, -1}};
        for (int[] w : wrong) {
            Due.is("19 wrong", x.worth(w[0], w[1], w[2], w[3]), RoundPoint.BAD);
            Due.is("20 wrong", x.higher(w[0], w[1], w[2], w[3]), RoundPoint.BAD);
        }
    }

    private static void worthOfHeight() {
        RoundPoint x = Shore.of(TENT, 999, 999, 999);
        x.way(1, 30100);
        x.way(2, 30100);
        Due.is("20 sooner in the ebb", x.higher(0, 100, 1, 0), 1);
        Due.is("20 as soon as can be", x.higher(0, 70, 1, 0), RoundPoint.NOT);
        Due.is("20 in the ebb too", x.higher(0, 270, 1, 0), 1);
        x.alter(0, 2, 300);
        Due.is("20 else never", x.higher(0, 100, 1, 0), 30);
        Due.is("20 just two hundred", x.higher(0, 270, 1, 0), 200);
        Due.is("20 more than two hundred", x.higher(0, 271, 1, 0), RoundPoint.NOT);
        Due.is("20 another way", x.higher(1, 100, 1, 0), RoundPoint.NOT);
        Due.is("20 the height stays", x.alter(0, 0, 100), 100);
        x.wind(7, 0, 1);
        Due.is("20 in all winds", x.higher(0, 100, 1, 0), 37);
        RoundPoint y = Shore.of("0:999", 999, 999);
        y.wind(99, 0, 1);
        y.way(1, 10990);
        Due.is("20 above 999 too", y.higher(0, 0, 1, 0), 108);
    }

    private static void mustWait() {
        RoundPoint x = Shore.of("0:0", 9, 9, 9, 9);
        x.way(1, 30009);
        x.way(102, 30009);
        x.alter(1, 1, 100);
        Due.is("21 at either", x.must(0, 2, 0), 0);
        Due.is("21 no waiting is wanted", x.must(100, 2, 0), 0);
        x.alter(0, 2, 0);
        Due.is("21 on the way", x.must(0, 2, 0), 2);
        x.alter(0, 2, 60);
        x.alter(0, 1, 60);
        x.alter(1, 1, 91);
        Due.is("21 at both", x.must(0, 2, 0), 3);
        Due.is("21 on the way alone", x.must(60, 2, 0), 2);
        x.alter(1, 1, 90);
        Due.is("21 at the start alone", x.must(0, 2, 0), 1);
        Due.is("21 here", x.must(5, 0, 0), 0);
        Due.is("21 waiting stays allowed", x.soon(0, 2, 0, 1), 123);
        Due.is("21 not there", x.must(0, 3, 0), RoundPoint.NOT);
        x.light(1, 123);
        Due.is("21 by dark", x.must(0, 2, 0), 1);
        x.light(1, 122);
        Due.is("21 not by dark", x.must(0, 2, 0), RoundPoint.NOT);
        x.light(1, 1439);
        x.wind(10, 0, 1);
        Due.is("21 not in all winds", x.must(0, 2, 0), RoundPoint.NOT);
        int[][] wrong = {{-1, 1, 0}, {1440, 1, 0}, {0, 4, 0}, {0, -1, 0}, {0, 1, 1}, {0, 1, 40}};
        for (int[] w : wrong) {
            Due.is("21 wrong", x.must(w[0], w[1], w[2]), RoundPoint.BAD);
        }
    }

    /** All once more on the second tide, by the second sort, between places 9, 10 and 11. */
    private static void elsewhere() {
        RoundPoint x = Shore.of("0:999", 0, 0, 0, 0, 0, 0, 0, 0, 0, 998, 40, 998);
        Shore.tide(x, TENT);
        x.way(910, 40100);
        x.way(1110, 10998);
        x.alter(1, 1, 40);
        Due.is("13 elsewhere", x.open(0, 11, 1, 2), 1407);
        Due.is("13 elsewhere shut", x.open(0, 10, 1, 0), 0);
        Due.is("14 elsewhere", x.soon(90000, 11, 11, 1), 49);
        Due.is("14 elsewhere shut", x.soon(90000, 11, 10, 1), RoundPoint.NOT);
        Due.is("15 elsewhere", x.last(911, 11, 1), 1439 - 32 - 9);
        Due.is("15 elsewhere shut", x.last(911, 10, 1), RoundPoint.NOT);
        x.light(1, 200);
        Due.is("15 elsewhere ahead of dark", x.last(911, 11, 1), 68);
        Due.is("15 elsewhere back", x.last(1109, 11, 1), 56);
        Due.is("16 elsewhere", x.best(90068, 11, 11, 1), 1);
        Due.is("16 elsewhere, too late", x.best(90069, 11, 11, 1), 0);
        Due.is("17 elsewhere", x.days(911, 1, 0), 2);
        Due.is("17 elsewhere, which", x.days(911, 1, 1), 1);
        Due.is("17 elsewhere by another sort", x.days(1109, 3, 0), 0);
        Due.is("18 elsewhere", x.two(90000, 110050, 11, 1, 0), 50);
        Due.is("18 elsewhere, the place", x.two(90000, 110050, 11, 1, 1), 11);
        Due.is("18 elsewhere, later", x.two(90057, 110001, 11, 1, 0), 84);
        Due.is("18 elsewhere, later, the place", x.two(90057, 110001, 11, 1, 1), 9);
        Due.is("19 elsewhere", x.worth(1, 90000, 11, 11), 8);
        Due.is("20 elsewhere", x.higher(0, 90069, 10, 11), 1);
        Due.is("20 elsewhere, ahead of the flood", x.higher(0, 90069, 11, 11), 1);
        Due.is("21 elsewhere at either", x.must(90000, 11, 11), 0);
        x.alter(0, 2, 7);
        Due.is("21 elsewhere", x.must(90000, 11, 11), 1 << 10);
        x.alter(0, 1, 7);
        x.alter(1, 1, 39);
        x.alter(1, 2, 39);
        Due.is("21 elsewhere, from the start", x.must(90000, 11, 11), 1 << 9);
        x.alter(0, 2, 68);
        x.alter(0, 1, 68);
        x.alter(1, 2, 1439);
        Due.is("20 elsewhere, its one minute", x.higher(0, 90068, 10, 11), RoundPoint.NOT);
        x.alter(0, 0, 99);
        Due.is("20 elsewhere, too low by one", x.higher(0, 90068, 10, 11), 1);
        x.alter(0, 0, 89);
        Due.is("20 elsewhere, too low by more", x.higher(0, 90068, 10, 11), 11);
    }

    private static void firstMinute() {
        RoundPoint x = Shore.of("0:500;1:0", 999, 999);
        x.way(1, 10100);
        x.wind(0, -60, 1);
        x.wind(0, 1, 1);
        Due.is("13 not at the first minute", x.open(0, 0, 1, 1), 1);
        Due.is("13 not for an hour", x.open(0, 0, 2, 1), 61);
        Due.is("13 but a minute early", x.open(0, 0, 4, 1), 0);
        Due.is("14 a minute's waiting", x.soon(0, 1, 0, 1), 11);
        Due.is("14 an hour's waiting", x.soon(0, 1, 0, 2), 71);
        Due.is("14 none", x.soon(0, 1, 0, 4), 10);
        x.safe(0, 499);
        Due.is("14 wet at the first minute", x.soon(0, 1, 0, 1), RoundPoint.NOT);
    }

    private static void lastOfTenTides() {
        RoundPoint x = Shore.of("0:999", 999, 999);
        for (int tide = 1; tide < 9; tide++) {
            Shore.tide(x, "0:999");
        }
        Shore.tide(x, TENT);
        x.way(1, 40100);
        Due.is("13 tide 9", x.open(0, 9, 1, 2), 1399);
        Due.is("13 tide 9, the slowest", x.open(0, 39, 1, 2), 1319);
        Due.is("14 tide 9", x.soon(0, 1, 9, 1), 40);
        Due.is("14 tide 9, a slow one", x.soon(0, 1, 29, 1), 60);
        Due.is("14 tide 8", x.soon(0, 1, 8, 1), RoundPoint.NOT);
        Due.is("15 tide 9", x.last(1, 19, 1), 1407);
        Due.is("17 the tenth", x.days(1, 3, 0), 512);
        Due.is("17 it", x.days(1, 3, 1), 9);
    }
}
