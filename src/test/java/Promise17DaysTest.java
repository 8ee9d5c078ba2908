/** Promise 17: days: DAYS from a PLACE to another one (ft) by a SORT: bits (what 0), the one with the latest LAST (1; NOT). BAD. */
public final class Promise17DaysTest {
    private Promise17DaysTest() {
    }

    public static void main(String[] args) {
        noTides();
        oneTide();
        tenTides();
        latestLast();
        ofLikeOnesTheFirst();
        dawnAndDark();
        inAllWinds();
        bySorts();
        fromOneToTheOther();
        byTideAndSort();
        refused();
        Due.end();
    }

    private static void days(RoundPoint x, String what, int ft, int sort, int bits, int latest) {
        Due.is("17 " + what, x.days(ft, sort, 0), bits);
        Due.is("17 " + what + ", the latest", x.days(ft, sort, 1), latest);
    }

    private static RoundPoint strait(int mh, String... tides) {
        RoundPoint x = new RoundPoint();
        for (String tide : tides) {
            Shore.tide(x, tide);
        }
        x.place(999);
        x.place(999);
        x.way(1, mh);
        return x;
    }

    private static void noTides() {
        days(strait(10000), "no tides", 1, 0, 0, RoundPoint.NOT);
    }

    private static void oneTide() {
        days(strait(10050, "0:50"), "at just its height", 1, 0, 1, 0);
        days(strait(10049, "0:50"), "too high", 1, 0, 0, RoundPoint.NOT);
    }

    private static void tenTides() {
        RoundPoint x = strait(10050, "0:50", "0:51", "0:50", "0:51", "0:51", "0:51", "0:51", "0:51", "0:51", "0:50");
        days(x, "the first, the third and the tenth", 1, 0, 1 | 4 | 512, 0);
        x.alter(0, 0, 51);
        days(x, "all ten", 100, 0, 1023, 0);
        x.alter(0, 0, 49);
        days(x, "none of ten", 1, 0, 0, RoundPoint.NOT);
        days(strait(10050, "0:51", "0:51", "0:51", "0:51", "0:51", "0:51", "0:51", "0:51", "0:51", "0:50"), "the tenth alone",
            1, 0, 512, 9);
    }

    private static void latestLast() {
        // shut from 100, from 300, from 200 on
        days(strait(10000, "99:0;100:9", "299:0;300:9", "199:0;200:9"), "the second", 1, 0, 7, 1);
        days(strait(10000, "99:0;100:9", "198:0;199:9", "199:0;200:9"), "the third by a minute", 1, 0, 7, 2);
        days(strait(10000, "0:9", "10:0;11:9", "0:9"), "at the first minute alone", 1, 0, 2, 1);
        days(strait(10000, "0:9", "9:0;10:9", "0:9"), "not even so", 1, 0, 0, RoundPoint.NOT);
    }

    private static void ofLikeOnesTheFirst() {
        days(strait(10000, "99:0;100:9", "199:0;200:9", "199:0;200:9", "100:0;199:0;200:9"), "of three", 1, 0, 15, 1);
        days(strait(10000, "0:0", "0:0"), "of two", 1, 0, 3, 0);
    }

    /** REACHED by dark, starting at dawn or later. */
    private static void dawnAndDark() {
        RoundPoint x = strait(10000, "99:0;100:9", "199:0;200:9");
        x.light(0, 89);
        days(x, "both from dawn on", 1, 0, 3, 1);
        x.light(0, 90);
        days(x, "the one too early", 1, 0, 2, 1);
        x.light(0, 189);
        days(x, "just at dawn", 1, 0, 2, 1);
        x.light(0, 190);
        days(x, "none from dawn on", 1, 0, 0, RoundPoint.NOT);
        x.light(0, 0);
        x.light(1, 99);
        days(x, "alike by dark", 1, 0, 3, 0);
        x.light(1, 100);
        days(x, "later by a minute", 1, 0, 3, 1);
        x.light(1, 10);
        days(x, "just by dark", 1, 0, 3, 0);
        x.light(1, 9);
        days(x, "not by dark", 1, 0, 0, RoundPoint.NOT);
    }

    private static void inAllWinds() {
        RoundPoint x = strait(10050, "0:50", "0:49", "0:48");
        days(x, "still", 1, 0, 7, 0);
        x.wind(1, 0, 1);
        days(x, "lifted too", 1, 0, 6, 1);
        x.wind(2, 0, 1);
        days(x, "lifted more", 1, 0, 4, 2);
        x.wind(3, 0, 1);
        days(x, "lifted most", 1, 0, 0, RoundPoint.NOT);
    }

    private static void bySorts() {
        RoundPoint x = strait(10000, "7:0;8:9", "8:0;9:9", "10:0;11:9", "15:0;16:9", "30:0;31:9");
        days(x, "sort 0", 1, 0, 28, 4);
        days(x, "sort 1", 1, 1, 30, 4);
        days(x, "sort 2", 1, 2, 24, 4);
        days(x, "sort 3", 1, 3, 16, 4);
    }

    private static void fromOneToTheOther() {
        RoundPoint x = Shore.of("0:0", 9, 9, 9, 9);
        Shore.tide(x, "0:9");
        x.way(102, 10000);
        x.way(302, 10009);
        x.alter(0, 2, 20);
        days(x, "1 to 2", 102, 0, 1, 0);
        days(x, "2 to 1", 201, 0, 1, 0);
        days(x, "2 to 3", 203, 0, 3, 0);
        days(x, "3 to 2", 302, 0, 3, 0);
        days(x, "1 to 3", 103, 0, 1, 0);
        days(x, "3 to 1", 301, 0, 1, 0);
        days(x, "0 to 1", 1, 0, 0, RoundPoint.NOT);
        days(x, "1 to 0", 100, 0, 0, RoundPoint.NOT);
        days(x, "0 to 2", 2, 0, 0, RoundPoint.NOT);
        days(x, "3 to 0", 300, 0, 0, RoundPoint.NOT);
    }

    private static void byTideAndSort() {
        RoundPoint x = Shore.ten(0);
        x.light(1, 15);
        for (int sort = 0; sort < 4; sort++) {
            days(x, "of ten by sort " + sort, 1, sort, sort < 3 ? 63 : 0, sort < 3 ? 0 : RoundPoint.NOT);
        }
    }

    private static void refused() {
        Refused.some("17 wrong", RoundPoint.BAD, x -> x.days(0, 0, 0), x -> x.days(101, 0, 0), x -> x.days(4, 0, 0),
            x -> x.days(400, 0, 0), x -> x.days(-1, 0, 0), x -> x.days(10001, 0, 0), x -> x.days(1, -1, 0),
            x -> x.days(1, 4, 0), x -> x.days(1, 10, 0), x -> x.days(1, 0, -1), x -> x.days(1, 0, 2),
            x -> x.days(Integer.MAX_VALUE, 0, 0), x -> x.days(Integer.MIN_VALUE, 0, 0), x -> x.days(1, Integer.MAX_VALUE, 0),
            x -> x.days(1, Integer.MIN_VALUE, 0), x -> x.days(1, 0, Integer.MAX_VALUE), x -> x.days(1, 0, Integer.MIN_VALUE));
        Refused.full("17 wrong, full", RoundPoint.BAD, x -> x.days(12, 0, 0), x -> x.days(1111, 0, 0), x -> x.days(1, 4, 1));
        Due.is("17 wrong without a tide too", new RoundPoint().days(1, 0, 0), RoundPoint.BAD);
    }
}
