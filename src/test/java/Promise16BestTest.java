/** Promise 16: best: BEST of WINDS from fm to a PLACE: thousandths (what 0), the set (1). BAD. */
public final class Promise16BestTest {
    /** High from 601 to 700; an hour sooner in a wind that brings it 60 early, an hour later in one of -60. */
    private static final String HIGH = "0:0;600:0;601:100;700:100;701:0";

    private Promise16BestTest() {
    }

    public static void main(String[] args) {
        allOrNone();
        byDark();
        whereOneIs();
        greatestSum();
        notTheGreatestNumber();
        ofLikeOnesTheLeast();
        together();
        thousandthsAreCut();
        fiveWinds();
        eachAlone();
        aLittleChance();
        byTideAndSort();
        refused();
        Due.end();
    }

    private static void best(RoundPoint x, String what, int fm, int to, int set, int thousandths) {
        Due.is("16 " + what + ", the set", x.best(fm, to, 0, 1), set);
        Due.is("16 " + what + ", thousandths", x.best(fm, to, 0, 0), thousandths);
    }

    private static void allOrNone() {
        RoundPoint x = Shore.strait("0:50", 999, 10050);
        best(x, "the one wind", 0, 1, 1, 1000);
        x.alter(0, 0, 49);
        best(x, "none", 0, 1, 0, 0);
        x.wind(-1, 0, 99);
        best(x, "the other alone", 0, 1, 2, 990);
        x.alter(0, 0, 50);
        best(x, "both", 0, 1, 3, 1000);
    }

    private static void byDark() {
        RoundPoint x = Shore.strait("0:0", 0, 10000);
        x.light(1, 100);
        best(x, "just by dark", 90, 1, 1, 1000);
        best(x, "a minute late", 91, 1, 0, 0);
        x.light(0, 100);
        best(x, "dawn is nothing to it", 90, 1, 1, 1000);
        Due.is("16 soon does not ask for dark", x.soon(91, 1, 0, 1), 101);
    }

    private static void whereOneIs() {
        RoundPoint x = Shore.strait("0:50", 0, 10000);
        x.wind(5, 5, 5);
        x.light(1, 100);
        best(x, "here, at dark", 100, 0, 3, 1000);
        best(x, "here, behind dark", 101, 0, 0, 0);
        best(x, "never there", 0, 1, 0, 0);
    }

    /** Ways that go in all winds but one: 0 not in still, 1 not when it is early, 2 not when it is late. */
    private static RoundPoint three(int early, int late) {
        RoundPoint x = Shore.of(HIGH, 999, 999);
        x.wind(0, 60, early);
        x.wind(0, -60, late);
        int[] begun = {650, 590, 701};
        for (int way = 0; way < 3; way++) {
            x.way(1, 10050);
            Shore.hours(x, way, begun[way], begun[way]);
        }
        return x;
    }

    private static void greatestSum() {
        best(three(3, 3), "all but still", 0, 1, 6, 857);
        best(three(2, 3), "the two greater", 0, 1, 6, 833);
        RoundPoint x = three(2, 3);
        x.alter(0, 0, 0);
        best(x, "the greatest sum without it", 0, 1, 6, 833);
        Shore.hours(x, 0, 641, 641);
        best(x, "so a little sooner", 0, 1, 6, 833);
        Shore.hours(x, 0, 651, 651);
        best(x, "a minute later it does not go when it is late", 0, 1, 5, 666);
        Shore.hours(x, 0, 630, 640);
        best(x, "shut when it is early too", 0, 1, 5, 666);
        x.alter(1, 0, 0);
        Shore.hours(x, 1, 601, 601);
        best(x, "without that", 0, 1, 3, 500);
    }

    private static void notTheGreatestNumber() {
        // two winds of 1 and 1 go by the one way, the third of 5 by the other
        RoundPoint x = Shore.of("0:50", 999, 999);
        x.wind(1, 0, 1);
        x.wind(49, 0, 5);
        x.way(1, 10051);
        best(x, "two of little chance", 0, 1, 3, 285);
        RoundPoint y = Shore.of(HIGH, 999, 999);
        y.wind(0, 0, 1);
        y.wind(0, -60, 5);
        y.way(1, 10050);
        y.way(1, 10050);
        Shore.hours(y, 0, 701, 701);
        Shore.hours(y, 1, 650, 650);
        best(y, "one of great chance", 0, 1, 4, 714);
        y.alter(1, 2, 1439);
        y.alter(1, 1, 1439);
        best(y, "the two alone", 0, 1, 3, 285);
    }

    private static void ofLikeOnesTheLeast() {
        best(three(1, 1), "of three pairs", 0, 1, 3, 666);
        RoundPoint x = three(3, 3);
        Shore.hours(x, 0, 1439, 1439);
        best(x, "of two pairs", 0, 1, 3, 571);
        RoundPoint y = three(3, 3);
        Shore.hours(y, 0, 1439, 1439);
        Shore.hours(y, 2, 1439, 1439);
        best(y, "the one pair that is left", 0, 1, 5, 571);
        // 1 and 2 sum up to 3: the sets 3 and 4 are like ones
        RoundPoint z = Shore.of(HIGH, 999, 999);
        z.wind(0, 0, 2);
        z.wind(0, -60, 3);
        z.way(1, 10050);
        z.way(1, 10050);
        Shore.hours(z, 0, 701, 701);
        Shore.hours(z, 1, 650, 650);
        best(z, "of a pair and one alone", 0, 1, 3, 500);
    }

    /** Each goes alone, but not together: the way must be the same in all of the set. */
    private static void together() {
        RoundPoint x = three(9, 9);
        Due.is("16 not all together", x.soon(0, 1, 0, 7), RoundPoint.NOT);
        for (int wind = 0; wind < 3; wind++) {
            Due.is("16 alone, wind " + wind, x.soon(0, 1, 0, 1 << wind) > 0 ? 1 : 0, 1);
        }
        best(x, "two of three", 0, 1, 6, 947);
    }

    private static void thousandthsAreCut() {
        RoundPoint x = Shore.strait("0:50", 999, 10050);
        x.wind(1, 0, 1);
        x.wind(2, 0, 1);
        best(x, "a third", 0, 1, 1, 333);
        x.alter(0, 0, 51);
        best(x, "two thirds", 0, 1, 3, 666);
        x.alter(0, 0, 52);
        best(x, "all thirds", 0, 1, 7, 1000);
        RoundPoint y = Shore.strait("0:50", 999, 10050);
        y.wind(1, 0, 99);
        y.wind(1, 0, 99);
        y.wind(1, 0, 99);
        y.wind(1, 0, 99);
        best(y, "1 of 397", 0, 1, 1, 2);
        y.alter(0, 0, 51);
        best(y, "397 of 397", 0, 1, 31, 1000);
    }

    private static void fiveWinds() {
        RoundPoint x = Shore.strait("0:50", 999, 10054);
        for (int wind = 1; wind < 5; wind++) {
            x.wind(wind, 0, 10 * wind);
        }
        int[] set = {31, 15, 7, 3, 1, 0};
        int[] sum = {101, 61, 31, 11, 1, 0};
        for (int less = 0; less < 6; less++) {
            x.alter(0, 0, 54 - less);
            best(x, "of five, less " + less, 0, 1, set[less], sum[less] * 1000 / 101);
        }
    }

    /** Low for twelve minutes alone, at another time in each wind: no two go together. */
    private static void eachAlone() {
        int[][] chances = {{1, 1, 1, 1}, {2, 3, 4, 5}, {5, 4, 3, 2}, {1, 9, 9, 1}};
        int[] set = {1, 16, 2, 4};
        int[] thousandths = {200, 5000 / 15, 5000 / 15, 9000 / 21};
        for (int i = 0; i < 4; i++) {
            RoundPoint x = Shore.strait("599:100;600:0;612:0;613:100", 999, 10050);
            x.wind(0, 60, chances[i][0]);
            x.wind(0, 30, chances[i][1]);
            x.wind(0, -30, chances[i][2]);
            x.wind(0, -60, chances[i][3]);
            best(x, "each alone, " + i, 0, 1, set[i], thousandths[i]);
        }
    }

    /** Not in the still WIND, and no likelier than that. */
    private static void aLittleChance() {
        RoundPoint x = Shore.strait("0:50", 999, 10049);
        x.wind(-1, 0, 1);
        best(x, "the second of two alike", 0, 1, 2, 500);
        x.wind(1, 0, 1);
        best(x, "the second of three alike", 0, 1, 2, 333);
        x.wind(-2, 0, 1);
        best(x, "two of four alike", 0, 1, 10, 500);
    }

    /** st: 10 times the SORT, and the TIDE. */
    private static void byTideAndSort() {
        RoundPoint x = Shore.ten(0);
        x.light(1, 115);
        for (int st = 0; st < 40; st++) {
            int set = st % 10 <= 5 && st / 10 < 3 ? 1 : 0;
            Due.is("16 st " + st + ", the set", x.best(100, 1, st, 1), set);
            Due.is("16 st " + st + ", thousandths", x.best(100, 1, st, 0), 1000 * set);
        }
    }

    private static void refused() {
        Refused.some("16 wrong", RoundPoint.BAD, x -> x.best(-1, 1, 0, 0), x -> x.best(1440, 1, 0, 0),
            x -> x.best(40000, 1, 0, 0), x -> x.best(0, -1, 0, 0), x -> x.best(0, 4, 0, 0), x -> x.best(0, 1, -1, 0),
            x -> x.best(0, 1, 2, 0), x -> x.best(0, 1, 40, 0), x -> x.best(0, 1, 0, -1), x -> x.best(0, 1, 0, 2),
            x -> x.best(Integer.MAX_VALUE, 1, 0, 0), x -> x.best(Integer.MIN_VALUE, 1, 0, 0),
            x -> x.best(0, Integer.MAX_VALUE, 0, 0), x -> x.best(0, 1, Integer.MAX_VALUE, 0),
            x -> x.best(0, 1, Integer.MIN_VALUE, 0), x -> x.best(0, 1, 0, Integer.MAX_VALUE));
        Refused.full("16 wrong, full", RoundPoint.BAD, x -> x.best(120000, 1, 0, 0), x -> x.best(0, 12, 0, 1),
            x -> x.best(0, 1, 40, 1));
        Refused.some("16 asked changes nothing", 0, x -> x.best(11439, 0, 0, 0), x -> x.best(11439, 0, 0, 1));
    }
}
